section
-- ===== PART A: goes FIRST, ahead of the names: the tables' words, and 'selects' of the private methods out of them =====
/-- a private method of a class that the tables say can be made, by its rows of tables_1 -/
def lw_okq (q : MethodName × Nat) : Prop := (q.1.cls ≠ "java/lang/invoke/MethodHandle" ∧ q.1.cls ≠ "java/lang/invoke/VarHandle") ∧ Cond.instantiable q.1.cls q.2 ∈ tables_1 ∧ Cond.privateMethod q.1 ∈ tables_1 ∧ Cond.instanceMethod q.1 ∈ tables_1
theorem lw_p0 : lw_okq (⟨"ShadowTailor$TextReader", "readNumbers", "(LShadowTailor$Text;II)I"⟩, 1) := ⟨⟨by decide +kernel, by decide +kernel⟩, List.mem_of_getElem? (i := 46) (by decide +kernel), List.mem_of_getElem? (i := 377) (by decide +kernel), List.mem_of_getElem? (i := 378) (by decide +kernel)⟩
theorem lw_p1 : lw_okq (⟨"ShadowTailor$TextReader", "addItem", "(LShadowTailor$Shop;C)Z"⟩, 1) := ⟨⟨by decide +kernel, by decide +kernel⟩, List.mem_of_getElem? (i := 46) (by decide +kernel), List.mem_of_getElem? (i := 384) (by decide +kernel), List.mem_of_getElem? (i := 385) (by decide +kernel)⟩
theorem lw_p2 : lw_okq (⟨"ShadowTailor", "isPerson", "(I)Z"⟩, 9) := ⟨⟨by decide +kernel, by decide +kernel⟩, List.mem_of_getElem? (i := 22) (by decide +kernel), List.mem_of_getElem? (i := 479) (by decide +kernel), List.mem_of_getElem? (i := 480) (by decide +kernel)⟩
theorem lw_p3 : lw_okq (⟨"ShadowTailor", "standersAt", "(II)I"⟩, 9) := ⟨⟨by decide +kernel, by decide +kernel⟩, List.mem_of_getElem? (i := 22) (by decide +kernel), List.mem_of_getElem? (i := 545) (by decide +kernel), List.mem_of_getElem? (i := 546) (by decide +kernel)⟩
theorem lw_p4 : lw_okq (⟨"ShadowTailor$Changes", "dropOldest", "()V"⟩, 3) := ⟨⟨by decide +kernel, by decide +kernel⟩, List.mem_of_getElem? (i := 57) (by decide +kernel), List.mem_of_getElem? (i := 575) (by decide +kernel), List.mem_of_getElem? (i := 576) (by decide +kernel)⟩
theorem lw_p5 : lw_okq (⟨"ShadowTailor$Sightings", "fits", "(LShadowTailor$Street;I)Z"⟩, 3) := ⟨⟨by decide +kernel, by decide +kernel⟩, List.mem_of_getElem? (i := 117) (by decide +kernel), List.mem_of_getElem? (i := 645) (by decide +kernel), List.mem_of_getElem? (i := 646) (by decide +kernel)⟩
theorem lw_p6 : lw_okq (⟨"ShadowTailor$Cutting", "seekFrom", "(LShadowTailor$Stock;III)V"⟩, 7) := ⟨⟨by decide +kernel, by decide +kernel⟩, List.mem_of_getElem? (i := 134) (by decide +kernel), List.mem_of_getElem? (i := 666) (by decide +kernel), List.mem_of_getElem? (i := 667) (by decide +kernel)⟩
theorem lw_p7 : lw_okq (⟨"ShadowTailor$Cutting", "lackingLength", "(LShadowTailor$Stock;)I"⟩, 7) := ⟨⟨by decide +kernel, by decide +kernel⟩, List.mem_of_getElem? (i := 134) (by decide +kernel), List.mem_of_getElem? (i := 670) (by decide +kernel), List.mem_of_getElem? (i := 671) (by decide +kernel)⟩
theorem lw_p8 : lw_okq (⟨"ShadowTailor$Cutting", "take", "(LShadowTailor$Stock;II)V"⟩, 7) := ⟨⟨by decide +kernel, by decide +kernel⟩, List.mem_of_getElem? (i := 134) (by decide +kernel), List.mem_of_getElem? (i := 675) (by decide +kernel), List.mem_of_getElem? (i := 676) (by decide +kernel)⟩
theorem lw_p9 : lw_okq (⟨"ShadowTailor$Timetable", "seekFrom", "(LShadowTailor$Stock;IIIII)V"⟩, 6) := ⟨⟨by decide +kernel, by decide +kernel⟩, List.mem_of_getElem? (i := 167) (by decide +kernel), List.mem_of_getElem? (i := 695) (by decide +kernel), List.mem_of_getElem? (i := 696) (by decide +kernel)⟩
theorem lw_p10 : lw_okq (⟨"ShadowTailor$Timetable", "take", "(LShadowTailor$Stock;II)V"⟩, 6) := ⟨⟨by decide +kernel, by decide +kernel⟩, List.mem_of_getElem? (i := 167) (by decide +kernel), List.mem_of_getElem? (i := 699) (by decide +kernel), List.mem_of_getElem? (i := 700) (by decide +kernel)⟩
theorem lw_p11 : lw_okq (⟨"ShadowTailorModel", "readItem", "()Z"⟩, 38) := ⟨⟨by decide +kernel, by decide +kernel⟩, List.mem_of_getElem? (i := 773) (by decide +kernel), List.mem_of_getElem? (i := 912) (by decide +kernel), List.mem_of_getElem? (i := 913) (by decide +kernel)⟩
theorem lw_p12 : lw_okq (⟨"ShadowTailorModel", "letterAt", "(I)I"⟩, 38) := ⟨⟨by decide +kernel, by decide +kernel⟩, List.mem_of_getElem? (i := 773) (by decide +kernel), List.mem_of_getElem? (i := 916) (by decide +kernel), List.mem_of_getElem? (i := 917) (by decide +kernel)⟩
theorem lw_p13 : lw_okq (⟨"ShadowTailorModel", "readPersonOf", "()Z"⟩, 38) := ⟨⟨by decide +kernel, by decide +kernel⟩, List.mem_of_getElem? (i := 773) (by decide +kernel), List.mem_of_getElem? (i := 920) (by decide +kernel), List.mem_of_getElem? (i := 921) (by decide +kernel)⟩
theorem lw_p14 : lw_okq (⟨"ShadowTailorModel", "readNumbers", "(I)Z"⟩, 38) := ⟨⟨by decide +kernel, by decide +kernel⟩, List.mem_of_getElem? (i := 773) (by decide +kernel), List.mem_of_getElem? (i := 924) (by decide +kernel), List.mem_of_getElem? (i := 925) (by decide +kernel)⟩
theorem lw_p15 : lw_okq (⟨"ShadowTailorModel", "isTold", "(III)Z"⟩, 38) := ⟨⟨by decide +kernel, by decide +kernel⟩, List.mem_of_getElem? (i := 773) (by decide +kernel), List.mem_of_getElem? (i := 931) (by decide +kernel), List.mem_of_getElem? (i := 932) (by decide +kernel)⟩
def lw_privs_1 : List (MethodName × Nat) := [(⟨"ShadowTailor$TextReader", "readNumbers", "(LShadowTailor$Text;II)I"⟩, 1), (⟨"ShadowTailor$TextReader", "addItem", "(LShadowTailor$Shop;C)Z"⟩, 1), (⟨"ShadowTailor", "isPerson", "(I)Z"⟩, 9), (⟨"ShadowTailor", "standersAt", "(II)I"⟩, 9), (⟨"ShadowTailor$Changes", "dropOldest", "()V"⟩, 3), (⟨"ShadowTailor$Sightings", "fits", "(LShadowTailor$Street;I)Z"⟩, 3), (⟨"ShadowTailor$Cutting", "seekFrom", "(LShadowTailor$Stock;III)V"⟩, 7), (⟨"ShadowTailor$Cutting", "lackingLength", "(LShadowTailor$Stock;)I"⟩, 7), (⟨"ShadowTailor$Cutting", "take", "(LShadowTailor$Stock;II)V"⟩, 7), (⟨"ShadowTailor$Timetable", "seekFrom", "(LShadowTailor$Stock;IIIII)V"⟩, 6), (⟨"ShadowTailor$Timetable", "take", "(LShadowTailor$Stock;II)V"⟩, 6), (⟨"ShadowTailorModel", "readItem", "()Z"⟩, 38), (⟨"ShadowTailorModel", "letterAt", "(I)I"⟩, 38), (⟨"ShadowTailorModel", "readPersonOf", "()Z"⟩, 38), (⟨"ShadowTailorModel", "readNumbers", "(I)Z"⟩, 38), (⟨"ShadowTailorModel", "isTold", "(III)Z"⟩, 38)]
theorem lw_r1 : ∀ q ∈ lw_privs_1, lw_okq q := List.forall_mem_cons.mpr ⟨lw_p0, List.forall_mem_cons.mpr ⟨lw_p1, List.forall_mem_cons.mpr ⟨lw_p2, List.forall_mem_cons.mpr ⟨lw_p3, List.forall_mem_cons.mpr ⟨lw_p4, List.forall_mem_cons.mpr ⟨lw_p5, List.forall_mem_cons.mpr ⟨lw_p6, List.forall_mem_cons.mpr ⟨lw_p7, List.forall_mem_cons.mpr ⟨lw_p8, List.forall_mem_cons.mpr ⟨lw_p9, List.forall_mem_cons.mpr ⟨lw_p10, List.forall_mem_cons.mpr ⟨lw_p11, List.forall_mem_cons.mpr ⟨lw_p12, List.forall_mem_cons.mpr ⟨lw_p13, List.forall_mem_cons.mpr ⟨lw_p14, List.forall_mem_cons.mpr ⟨lw_p15, fun _ h => absurd h List.not_mem_nil⟩⟩⟩⟩⟩⟩⟩⟩⟩⟩⟩⟩⟩⟩⟩⟩
theorem lw_p16 : lw_okq (⟨"ShadowTailorModel", "readWalk", "()Z"⟩, 38) := ⟨⟨by decide +kernel, by decide +kernel⟩, List.mem_of_getElem? (i := 773) (by decide +kernel), List.mem_of_getElem? (i := 938) (by decide +kernel), List.mem_of_getElem? (i := 939) (by decide +kernel)⟩
theorem lw_p17 : lw_okq (⟨"ShadowTailorModel", "isHourOfOne", "()Z"⟩, 38) := ⟨⟨by decide +kernel, by decide +kernel⟩, List.mem_of_getElem? (i := 773) (by decide +kernel), List.mem_of_getElem? (i := 942) (by decide +kernel), List.mem_of_getElem? (i := 943) (by decide +kernel)⟩
theorem lw_p18 : lw_okq (⟨"ShadowTailorModel", "readLawOf", "()Z"⟩, 38) := ⟨⟨by decide +kernel, by decide +kernel⟩, List.mem_of_getElem? (i := 773) (by decide +kernel), List.mem_of_getElem? (i := 946) (by decide +kernel), List.mem_of_getElem? (i := 947) (by decide +kernel)⟩
theorem lw_p19 : lw_okq (⟨"ShadowTailorModel", "readRemnantOf", "()Z"⟩, 38) := ⟨⟨by decide +kernel, by decide +kernel⟩, List.mem_of_getElem? (i := 773) (by decide +kernel), List.mem_of_getElem? (i := 950) (by decide +kernel), List.mem_of_getElem? (i := 951) (by decide +kernel)⟩
theorem lw_p20 : lw_okq (⟨"ShadowTailorModel", "readOrderOf", "()Z"⟩, 38) := ⟨⟨by decide +kernel, by decide +kernel⟩, List.mem_of_getElem? (i := 773) (by decide +kernel), List.mem_of_getElem? (i := 954) (by decide +kernel), List.mem_of_getElem? (i := 955) (by decide +kernel)⟩
theorem lw_p21 : lw_okq (⟨"ShadowTailorModel", "readFittingOf", "()Z"⟩, 38) := ⟨⟨by decide +kernel, by decide +kernel⟩, List.mem_of_getElem? (i := 773) (by decide +kernel), List.mem_of_getElem? (i := 958) (by decide +kernel), List.mem_of_getElem? (i := 959) (by decide +kernel)⟩
theorem lw_p22 : lw_okq (⟨"ShadowTailorModel", "isPerson", "(I)Z"⟩, 38) := ⟨⟨by decide +kernel, by decide +kernel⟩, List.mem_of_getElem? (i := 773) (by decide +kernel), List.mem_of_getElem? (i := 971) (by decide +kernel), List.mem_of_getElem? (i := 972) (by decide +kernel)⟩
theorem lw_p23 : lw_okq (⟨"ShadowTailorModel", "whereAt", "(II)I"⟩, 38) := ⟨⟨by decide +kernel, by decide +kernel⟩, List.mem_of_getElem? (i := 773) (by decide +kernel), List.mem_of_getElem? (i := 982) (by decide +kernel), List.mem_of_getElem? (i := 983) (by decide +kernel)⟩
theorem lw_p24 : lw_okq (⟨"ShadowTailorModel", "longAt", "(II)I"⟩, 38) := ⟨⟨by decide +kernel, by decide +kernel⟩, List.mem_of_getElem? (i := 773) (by decide +kernel), List.mem_of_getElem? (i := 990) (by decide +kernel), List.mem_of_getElem? (i := 991) (by decide +kernel)⟩
theorem lw_p25 : lw_okq (⟨"ShadowTailorModel", "longBy", "(III)I"⟩, 38) := ⟨⟨by decide +kernel, by decide +kernel⟩, List.mem_of_getElem? (i := 773) (by decide +kernel), List.mem_of_getElem? (i := 994) (by decide +kernel), List.mem_of_getElem? (i := 995) (by decide +kernel)⟩
theorem lw_p26 : lw_okq (⟨"ShadowTailorModel", "fromNoon", "(I)I"⟩, 38) := ⟨⟨by decide +kernel, by decide +kernel⟩, List.mem_of_getElem? (i := 773) (by decide +kernel), List.mem_of_getElem? (i := 998) (by decide +kernel), List.mem_of_getElem? (i := 999) (by decide +kernel)⟩
theorem lw_p27 : lw_okq (⟨"ShadowTailorModel", "wayAt", "(II)I"⟩, 38) := ⟨⟨by decide +kernel, by decide +kernel⟩, List.mem_of_getElem? (i := 773) (by decide +kernel), List.mem_of_getElem? (i := 1002) (by decide +kernel), List.mem_of_getElem? (i := 1003) (by decide +kernel)⟩
theorem lw_p28 : lw_okq (⟨"ShadowTailorModel", "endAt", "(II)I"⟩, 38) := ⟨⟨by decide +kernel, by decide +kernel⟩, List.mem_of_getElem? (i := 773) (by decide +kernel), List.mem_of_getElem? (i := 1006) (by decide +kernel), List.mem_of_getElem? (i := 1007) (by decide +kernel)⟩
theorem lw_p29 : lw_okq (⟨"ShadowTailorModel", "standsAt", "(II)I"⟩, 38) := ⟨⟨by decide +kernel, by decide +kernel⟩, List.mem_of_getElem? (i := 773) (by decide +kernel), List.mem_of_getElem? (i := 1021) (by decide +kernel), List.mem_of_getElem? (i := 1022) (by decide +kernel)⟩
theorem lw_p30 : lw_okq (⟨"ShadowTailorModel", "standOn", "(III)I"⟩, 38) := ⟨⟨by decide +kernel, by decide +kernel⟩, List.mem_of_getElem? (i := 773) (by decide +kernel), List.mem_of_getElem? (i := 1025) (by decide +kernel), List.mem_of_getElem? (i := 1026) (by decide +kernel)⟩
theorem lw_p31 : lw_okq (⟨"ShadowTailorModel", "remembers", "()V"⟩, 38) := ⟨⟨by decide +kernel, by decide +kernel⟩, List.mem_of_getElem? (i := 773) (by decide +kernel), List.mem_of_getElem? (i := 1040) (by decide +kernel), List.mem_of_getElem? (i := 1041) (by decide +kernel)⟩
def lw_privs_2 : List (MethodName × Nat) := [(⟨"ShadowTailorModel", "readWalk", "()Z"⟩, 38), (⟨"ShadowTailorModel", "isHourOfOne", "()Z"⟩, 38), (⟨"ShadowTailorModel", "readLawOf", "()Z"⟩, 38), (⟨"ShadowTailorModel", "readRemnantOf", "()Z"⟩, 38), (⟨"ShadowTailorModel", "readOrderOf", "()Z"⟩, 38), (⟨"ShadowTailorModel", "readFittingOf", "()Z"⟩, 38), (⟨"ShadowTailorModel", "isPerson", "(I)Z"⟩, 38), (⟨"ShadowTailorModel", "whereAt", "(II)I"⟩, 38), (⟨"ShadowTailorModel", "longAt", "(II)I"⟩, 38), (⟨"ShadowTailorModel", "longBy", "(III)I"⟩, 38), (⟨"ShadowTailorModel", "fromNoon", "(I)I"⟩, 38), (⟨"ShadowTailorModel", "wayAt", "(II)I"⟩, 38), (⟨"ShadowTailorModel", "endAt", "(II)I"⟩, 38), (⟨"ShadowTailorModel", "standsAt", "(II)I"⟩, 38), (⟨"ShadowTailorModel", "standOn", "(III)I"⟩, 38), (⟨"ShadowTailorModel", "remembers", "()V"⟩, 38)]
theorem lw_r2 : ∀ q ∈ lw_privs_2, lw_okq q := List.forall_mem_cons.mpr ⟨lw_p16, List.forall_mem_cons.mpr ⟨lw_p17, List.forall_mem_cons.mpr ⟨lw_p18, List.forall_mem_cons.mpr ⟨lw_p19, List.forall_mem_cons.mpr ⟨lw_p20, List.forall_mem_cons.mpr ⟨lw_p21, List.forall_mem_cons.mpr ⟨lw_p22, List.forall_mem_cons.mpr ⟨lw_p23, List.forall_mem_cons.mpr ⟨lw_p24, List.forall_mem_cons.mpr ⟨lw_p25, List.forall_mem_cons.mpr ⟨lw_p26, List.forall_mem_cons.mpr ⟨lw_p27, List.forall_mem_cons.mpr ⟨lw_p28, List.forall_mem_cons.mpr ⟨lw_p29, List.forall_mem_cons.mpr ⟨lw_p30, List.forall_mem_cons.mpr ⟨lw_p31, fun _ h => absurd h List.not_mem_nil⟩⟩⟩⟩⟩⟩⟩⟩⟩⟩⟩⟩⟩⟩⟩⟩
theorem lw_p32 : lw_okq (⟨"ShadowTailorModel", "does", "(IIII)Z"⟩, 38) := ⟨⟨by decide +kernel, by decide +kernel⟩, List.mem_of_getElem? (i := 773) (by decide +kernel), List.mem_of_getElem? (i := 1070) (by decide +kernel), List.mem_of_getElem? (i := 1071) (by decide +kernel)⟩
theorem lw_p33 : lw_okq (⟨"ShadowTailorModel", "alike", "(II)I"⟩, 38) := ⟨⟨by decide +kernel, by decide +kernel⟩, List.mem_of_getElem? (i := 773) (by decide +kernel), List.mem_of_getElem? (i := 1091) (by decide +kernel), List.mem_of_getElem? (i := 1092) (by decide +kernel)⟩
theorem lw_p34 : lw_okq (⟨"ShadowTailorModel", "shares", "(I)Z"⟩, 38) := ⟨⟨by decide +kernel, by decide +kernel⟩, List.mem_of_getElem? (i := 773) (by decide +kernel), List.mem_of_getElem? (i := 1099) (by decide +kernel), List.mem_of_getElem? (i := 1100) (by decide +kernel)⟩
theorem lw_p35 : lw_okq (⟨"ShadowTailorModel", "arranges", "(I)V"⟩, 38) := ⟨⟨by decide +kernel, by decide +kernel⟩, List.mem_of_getElem? (i := 773) (by decide +kernel), List.mem_of_getElem? (i := 1110) (by decide +kernel), List.mem_of_getElem? (i := 1111) (by decide +kernel)⟩
theorem lw_p36 : lw_okq (⟨"ShadowTailorModel", "nearest", "(II)I"⟩, 38) := ⟨⟨by decide +kernel, by decide +kernel⟩, List.mem_of_getElem? (i := 773) (by decide +kernel), List.mem_of_getElem? (i := 1118) (by decide +kernel), List.mem_of_getElem? (i := 1119) (by decide +kernel)⟩
theorem lw_p37 : lw_okq (⟨"ShadowTailorModel", "highAt", "(II)I"⟩, 38) := ⟨⟨by decide +kernel, by decide +kernel⟩, List.mem_of_getElem? (i := 773) (by decide +kernel), List.mem_of_getElem? (i := 1122) (by decide +kernel), List.mem_of_getElem? (i := 1123) (by decide +kernel)⟩
theorem lw_p38 : lw_okq (⟨"ShadowTailorModel", "lowAt", "(II)I"⟩, 38) := ⟨⟨by decide +kernel, by decide +kernel⟩, List.mem_of_getElem? (i := 773) (by decide +kernel), List.mem_of_getElem? (i := 1126) (by decide +kernel), List.mem_of_getElem? (i := 1127) (by decide +kernel)⟩
def lw_privs_3 : List (MethodName × Nat) := [(⟨"ShadowTailorModel", "does", "(IIII)Z"⟩, 38), (⟨"ShadowTailorModel", "alike", "(II)I"⟩, 38), (⟨"ShadowTailorModel", "shares", "(I)Z"⟩, 38), (⟨"ShadowTailorModel", "arranges", "(I)V"⟩, 38), (⟨"ShadowTailorModel", "nearest", "(II)I"⟩, 38), (⟨"ShadowTailorModel", "highAt", "(II)I"⟩, 38), (⟨"ShadowTailorModel", "lowAt", "(II)I"⟩, 38)]
theorem lw_r3 : ∀ q ∈ lw_privs_3, lw_okq q := List.forall_mem_cons.mpr ⟨lw_p32, List.forall_mem_cons.mpr ⟨lw_p33, List.forall_mem_cons.mpr ⟨lw_p34, List.forall_mem_cons.mpr ⟨lw_p35, List.forall_mem_cons.mpr ⟨lw_p36, List.forall_mem_cons.mpr ⟨lw_p37, List.forall_mem_cons.mpr ⟨lw_p38, fun _ h => absurd h List.not_mem_nil⟩⟩⟩⟩⟩⟩⟩
def lw_privs : List (MethodName × Nat) := lw_privs_1 ++ (lw_privs_2 ++ (lw_privs_3))
def lw_tbl : List Cond := k2_sels lw_privs ++ tables_1
theorem lw_privs_ok : ∀ q ∈ lw_privs, lw_okq q := by
  show ∀ q ∈ lw_privs_1 ++ (lw_privs_2 ++ (lw_privs_3)), lw_okq q
  exact List.forall_mem_append.mpr ⟨lw_r1, List.forall_mem_append.mpr ⟨lw_r2, lw_r3⟩⟩
end
section
/-! names out of the printed list: classes, fields, codes, methods -/
/-- words that stay true while the machine runs -/
def ax_kept : Cond → Bool
  | .fieldLinkNest .. => true
  | .methodLinkNest .. => true
  | .arrayOver (.object _) => true
  | w => goodWord w
def ax_tbl : List Cond := lw_tbl.filter ax_kept
def RX0 : String := "ShadowTailor$Changes"
def TX0 : u_T := fun k => match k with
  | 0 => ("ShadowTailor$Changes", "whom", "[I", true)
  | 1 => ("ShadowTailor$Changes", "was", "[I", true)
  | _ => ("ShadowTailor$Changes", "many", "I", false)
def tyX0 : Nat → FieldType := fun k => match k with
  | 0 => .array .int
  | 1 => .array .int
  | _ => .int
abbrev wsX00 : List Cond := u_ws RX0 TX0 3
theorem nmX0 : ∀ a, a < 3 → ∀ b, b < 3 → a ≠ b → (TX0 a).2.1 ≠ (TX0 b).2.1 := by decide +kernel
theorem tyX0_ok : ∀ k, k < 3 → parseFieldDescriptor (TX0 k).2.2.1 = some (tyX0 k) := by decide +kernel
abbrev cX0_init : ByteArray := prog_2_method_1_code
def yX0_init : MethodName := ⟨RX0, "<init>", "()V"⟩
abbrev cX0_add : ByteArray := prog_2_method_2_code
def yX0_add : MethodName := ⟨RX0, "add", "(II)V"⟩
abbrev cX0_dropOldest : ByteArray := prog_2_method_3_code
def yX0_dropOldest : MethodName := ⟨RX0, "dropOldest", "()V"⟩
abbrev cX0_takeBack : ByteArray := prog_2_method_4_code
def yX0_takeBack : MethodName := ⟨RX0, "takeBack", "(LShadowTailor$State;)Z"⟩
def RX1 : String := "ShadowTailor$Cutting"
def TX1 : u_T := fun k => match k with
  | 0 => ("ShadowTailor$Cutting", "lack", "[I", true)
  | 1 => ("ShadowTailor$Cutting", "choice", "[I", true)
  | 2 => ("ShadowTailor$Cutting", "best", "[I", true)
  | 3 => ("ShadowTailor$Cutting", "isKnown", "Z", false)
  | 4 => ("ShadowTailor$Cutting", "isFound", "Z", false)
  | 5 => ("ShadowTailor$Cutting", "leastUsed", "I", false)
  | _ => ("ShadowTailor$Cutting", "leastLength", "I", false)
def tyX1 : Nat → FieldType := fun k => match k with
  | 0 => .array .int
  | 1 => .array .int
  | 2 => .array .int
  | 3 => .boolean
  | 4 => .boolean
  | 5 => .int
  | _ => .int
abbrev wsX10 : List Cond := u_ws RX1 TX1 7
theorem nmX1 : ∀ a, a < 7 → ∀ b, b < 7 → a ≠ b → (TX1 a).2.1 ≠ (TX1 b).2.1 := by decide +kernel
theorem tyX1_ok : ∀ k, k < 7 → parseFieldDescriptor (TX1 k).2.2.1 = some (tyX1 k) := by decide +kernel
abbrev cX1_init : ByteArray := prog_3_method_1_code
def yX1_init : MethodName := ⟨RX1, "<init>", "()V"⟩
abbrev cX1_seek : ByteArray := prog_3_method_2_code
def yX1_seek : MethodName := ⟨RX1, "seek", "(LShadowTailor$Stock;)V"⟩
abbrev cX1_seekFrom : ByteArray := prog_3_method_3_code
def yX1_seekFrom : MethodName := ⟨RX1, "seekFrom", "(LShadowTailor$Stock;III)V"⟩
abbrev cX1_lackingLength : ByteArray := prog_3_method_4_code
def yX1_lackingLength : MethodName := ⟨RX1, "lackingLength", "(LShadowTailor$Stock;)I"⟩
abbrev cX1_take : ByteArray := prog_3_method_5_code
def yX1_take : MethodName := ⟨RX1, "take", "(LShadowTailor$Stock;II)V"⟩
def RX2 : String := "ShadowTailor$Kept"
def TX2 : u_T := fun k => match k with
  | 0 => ("ShadowTailor$Kept", "states", "[LShadowTailor$State;", true)
  | _ => ("ShadowTailor$Kept", "many", "I", false)
def tyX2 : Nat → FieldType := fun k => match k with
  | 0 => .array (.object "ShadowTailor$State")
  | _ => .int
abbrev wsX20 : List Cond := u_ws RX2 TX2 2
theorem nmX2 : ∀ a, a < 2 → ∀ b, b < 2 → a ≠ b → (TX2 a).2.1 ≠ (TX2 b).2.1 := by decide +kernel
theorem tyX2_ok : ∀ k, k < 2 → parseFieldDescriptor (TX2 k).2.2.1 = some (tyX2 k) := by decide +kernel
abbrev cX2_init : ByteArray := prog_4_method_1_code
def yX2_init : MethodName := ⟨RX2, "<init>", "()V"⟩
abbrev cX2_add : ByteArray := prog_4_method_2_code
def yX2_add : MethodName := ⟨RX2, "add", "(LShadowTailor$State;)Z"⟩
abbrev cX2_restore : ByteArray := prog_4_method_3_code
def yX2_restore : MethodName := ⟨RX2, "restore", "(LShadowTailor$State;)Z"⟩
def RX3 : String := "ShadowTailor$Shop"
def TX3 : u_T := fun k => match k with
  | 0 => ("ShadowTailor$Shop", "street", "LShadowTailor$Street;", true)
  | _ => ("ShadowTailor$Shop", "stock", "LShadowTailor$Stock;", true)
def tyX3 : Nat → FieldType := fun k => match k with
  | 0 => .object "ShadowTailor$Street"
  | _ => .object "ShadowTailor$Stock"
abbrev wsX30 : List Cond := u_ws RX3 TX3 2
theorem nmX3 : ∀ a, a < 2 → ∀ b, b < 2 → a ≠ b → (TX3 a).2.1 ≠ (TX3 b).2.1 := by decide +kernel
theorem tyX3_ok : ∀ k, k < 2 → parseFieldDescriptor (TX3 k).2.2.1 = some (tyX3 k) := by decide +kernel
abbrev cX3_init : ByteArray := prog_5_method_1_code
def yX3_init : MethodName := ⟨RX3, "<init>", "()V"⟩
abbrev cX3_clear : ByteArray := prog_5_method_2_code
def yX3_clear : MethodName := ⟨RX3, "clear", "()V"⟩
def RX4 : String := "ShadowTailor$Sightings"
def TX4 : u_T := fun k => match k with
  | 0 => ("ShadowTailor$Sightings", "hour", "[I", true)
  | 1 => ("ShadowTailor$Sightings", "cell", "[I", true)
  | _ => ("ShadowTailor$Sightings", "many", "I", false)
def tyX4 : Nat → FieldType := fun k => match k with
  | 0 => .array .int
  | 1 => .array .int
  | _ => .int
abbrev wsX40 : List Cond := u_ws RX4 TX4 3
theorem nmX4 : ∀ a, a < 3 → ∀ b, b < 3 → a ≠ b → (TX4 a).2.1 ≠ (TX4 b).2.1 := by decide +kernel
theorem tyX4_ok : ∀ k, k < 3 → parseFieldDescriptor (TX4 k).2.2.1 = some (tyX4 k) := by decide +kernel
abbrev cX4_init : ByteArray := prog_6_method_1_code
def yX4_init : MethodName := ⟨RX4, "<init>", "()V"⟩
abbrev cX4_add : ByteArray := prog_6_method_2_code
def yX4_add : MethodName := ⟨RX4, "add", "(II)Z"⟩
abbrev cX4_suspects : ByteArray := prog_6_method_3_code
def yX4_suspects : MethodName := ⟨RX4, "suspects", "(LShadowTailor$Street;)I"⟩
abbrev cX4_fits : ByteArray := prog_6_method_4_code
def yX4_fits : MethodName := ⟨RX4, "fits", "(LShadowTailor$Street;I)Z"⟩
abbrev cX4_mostAlike : ByteArray := prog_6_method_5_code
def yX4_mostAlike : MethodName := ⟨RX4, "mostAlike", "(LShadowTailor$Street;II)I"⟩
def RX5 : String := "ShadowTailor$State"
def TX5 : u_T := fun k => match k with
  | 0 => ("ShadowTailor$State", "taken", "[I", true)
  | 1 => ("ShadowTailor$State", "walker", "[I", true)
  | 2 => ("ShadowTailor$State", "walkHour", "[I", true)
  | 3 => ("ShadowTailor$State", "walkCell", "[I", true)
  | _ => ("ShadowTailor$State", "walks", "I", false)
def tyX5 : Nat → FieldType := fun k => match k with
  | 0 => .array .int
  | 1 => .array .int
  | 2 => .array .int
  | 3 => .array .int
  | _ => .int
abbrev wsX50 : List Cond := u_ws RX5 TX5 5
theorem nmX5 : ∀ a, a < 5 → ∀ b, b < 5 → a ≠ b → (TX5 a).2.1 ≠ (TX5 b).2.1 := by decide +kernel
theorem tyX5_ok : ∀ k, k < 5 → parseFieldDescriptor (TX5 k).2.2.1 = some (tyX5 k) := by decide +kernel
abbrev cX5_init : ByteArray := prog_7_method_1_code
def yX5_init : MethodName := ⟨RX5, "<init>", "()V"⟩
abbrev cX5_addWalk : ByteArray := prog_7_method_2_code
def yX5_addWalk : MethodName := ⟨RX5, "addWalk", "(III)Z"⟩
abbrev cX5_cellAfterWalks : ByteArray := prog_7_method_3_code
def yX5_cellAfterWalks : MethodName := ⟨RX5, "cellAfterWalks", "(III)I"⟩
abbrev cX5_copyFrom : ByteArray := prog_7_method_4_code
def yX5_copyFrom : MethodName := ⟨RX5, "copyFrom", "(LShadowTailor$State;)V"⟩
def RX6 : String := "ShadowTailor$Stock"
def TX6 : u_T := fun k => match k with
  | 0 => ("ShadowTailor$Stock", "remnant", "[I", true)
  | 1 => ("ShadowTailor$Stock", "order", "[I", true)
  | 2 => ("ShadowTailor$Stock", "fittingHours", "[I", true)
  | 3 => ("ShadowTailor$Stock", "fittingDue", "[I", true)
  | 4 => ("ShadowTailor$Stock", "remnants", "I", false)
  | 5 => ("ShadowTailor$Stock", "orders", "I", false)
  | _ => ("ShadowTailor$Stock", "fittings", "I", false)
def tyX6 : Nat → FieldType := fun k => match k with
  | 0 => .array .int
  | 1 => .array .int
  | 2 => .array .int
  | 3 => .array .int
  | 4 => .int
  | 5 => .int
  | _ => .int
abbrev wsX60 : List Cond := u_ws RX6 TX6 7
theorem nmX6 : ∀ a, a < 7 → ∀ b, b < 7 → a ≠ b → (TX6 a).2.1 ≠ (TX6 b).2.1 := by decide +kernel
theorem tyX6_ok : ∀ k, k < 7 → parseFieldDescriptor (TX6 k).2.2.1 = some (tyX6 k) := by decide +kernel
abbrev cX6_init : ByteArray := prog_8_method_1_code
def yX6_init : MethodName := ⟨RX6, "<init>", "()V"⟩
abbrev cX6_clear : ByteArray := prog_8_method_2_code
def yX6_clear : MethodName := ⟨RX6, "clear", "()V"⟩
abbrev cX6_addRemnant : ByteArray := prog_8_method_3_code
def yX6_addRemnant : MethodName := ⟨RX6, "addRemnant", "(I)Z"⟩
abbrev cX6_addOrder : ByteArray := prog_8_method_4_code
def yX6_addOrder : MethodName := ⟨RX6, "addOrder", "(I)Z"⟩
abbrev cX6_addFitting : ByteArray := prog_8_method_5_code
def yX6_addFitting : MethodName := ⟨RX6, "addFitting", "(II)Z"⟩
abbrev cX6_orderedLength : ByteArray := prog_8_method_6_code
def yX6_orderedLength : MethodName := ⟨RX6, "orderedLength", "()I"⟩
abbrev cX6_lengthFrom : ByteArray := prog_8_method_7_code
def yX6_lengthFrom : MethodName := ⟨RX6, "lengthFrom", "(I)I"⟩
def RX7 : String := "ShadowTailor$Street"
def TX7 : u_T := fun k => match k with
  | 0 => ("ShadowTailor$Street", "home", "[I", true)
  | 1 => ("ShadowTailor$Street", "height", "[I", true)
  | 2 => ("ShadowTailor$Street", "kind", "[I", true)
  | 3 => ("ShadowTailor$Street", "state", "LShadowTailor$State;", true)
  | 4 => ("ShadowTailor$Street", "lawFor", "[I", true)
  | 5 => ("ShadowTailor$Street", "lawHour", "[I", true)
  | 6 => ("ShadowTailor$Street", "lawLength", "[I", true)
  | 7 => ("ShadowTailor$Street", "cells", "[I", true)
  | 8 => ("ShadowTailor$Street", "persons", "I", false)
  | _ => ("ShadowTailor$Street", "laws", "I", false)
def tyX7 : Nat → FieldType := fun k => match k with
  | 0 => .array .int
  | 1 => .array .int
  | 2 => .array .int
  | 3 => .object "ShadowTailor$State"
  | 4 => .array .int
  | 5 => .array .int
  | 6 => .array .int
  | 7 => .array .int
  | 8 => .int
  | _ => .int
abbrev wsX70 : List Cond := u_ws RX7 TX7 10
theorem nmX7 : ∀ a, a < 10 → ∀ b, b < 10 → a ≠ b → (TX7 a).2.1 ≠ (TX7 b).2.1 := by decide +kernel
theorem tyX7_ok : ∀ k, k < 10 → parseFieldDescriptor (TX7 k).2.2.1 = some (tyX7 k) := by decide +kernel
abbrev cX7_init : ByteArray := prog_9_method_1_code
def yX7_init : MethodName := ⟨RX7, "<init>", "()V"⟩
abbrev cX7_clear : ByteArray := prog_9_method_2_code
def yX7_clear : MethodName := ⟨RX7, "clear", "()V"⟩
abbrev cX7_hasPerson : ByteArray := prog_9_method_3_code
def yX7_hasPerson : MethodName := ⟨RX7, "hasPerson", "(I)Z"⟩
abbrev cX7_addPerson : ByteArray := prog_9_method_4_code
def yX7_addPerson : MethodName := ⟨RX7, "addPerson", "(IIII)Z"⟩
abbrev cX7_addLaw : ByteArray := prog_9_method_5_code
def yX7_addLaw : MethodName := ⟨RX7, "addLaw", "(III)Z"⟩
abbrev cX7_cellOf : ByteArray := prog_9_method_6_code
def yX7_cellOf : MethodName := ⟨RX7, "cellOf", "(II)I"⟩
abbrev cX7_cellsAt : ByteArray := prog_9_method_7_code
def yX7_cellsAt : MethodName := ⟨RX7, "cellsAt", "(I)[I"⟩
abbrev cX7_drawnCells : ByteArray := prog_9_method_8_code
def yX7_drawnCells : MethodName := ⟨RX7, "drawnCells", "(II)[I"⟩
abbrev cX7_fullLength : ByteArray := prog_9_method_9_code
def yX7_fullLength : MethodName := ⟨RX7, "fullLength", "(II)I"⟩
abbrev cX7_lengthOf : ByteArray := prog_9_method_10_code
def yX7_lengthOf : MethodName := ⟨RX7, "lengthOf", "(II)I"⟩
abbrev cX7_wayOf : ByteArray := prog_9_method_11_code
def yX7_wayOf : MethodName := ⟨RX7, "wayOf", "(II)I"⟩
abbrev cX7_endOf : ByteArray := prog_9_method_12_code
def yX7_endOf : MethodName := ⟨RX7, "endOf", "(II)I"⟩
abbrev cX7_lowEndOf : ByteArray := prog_9_method_13_code
def yX7_lowEndOf : MethodName := ⟨RX7, "lowEndOf", "(II)I"⟩
abbrev cX7_highEndOf : ByteArray := prog_9_method_14_code
def yX7_highEndOf : MethodName := ⟨RX7, "highEndOf", "(II)I"⟩
abbrev cX7_coverersOf : ByteArray := prog_9_method_15_code
def yX7_coverersOf : MethodName := ⟨RX7, "coverersOf", "(II)I"⟩
abbrev cX7_standersOn : ByteArray := prog_9_method_16_code
def yX7_standersOn : MethodName := ⟨RX7, "standersOn", "(II[I)I"⟩
abbrev cX7_firstBroken : ByteArray := prog_9_method_17_code
def yX7_firstBroken : MethodName := ⟨RX7, "firstBroken", "()I"⟩
abbrev cX7_neededByLaws : ByteArray := prog_9_method_18_code
def yX7_neededByLaws : MethodName := ⟨RX7, "neededByLaws", "(I)I"⟩
abbrev cX7_neededByStanders : ByteArray := prog_9_method_19_code
def yX7_neededByStanders : MethodName := ⟨RX7, "neededByStanders", "(III)I"⟩
abbrev cX7_nextWatcher : ByteArray := prog_9_method_20_code
def yX7_nextWatcher : MethodName := ⟨RX7, "nextWatcher", "(II)I"⟩
def RX8 : String := "ShadowTailor$Text"
def TX8 : u_T := fun k => match k with
  | 0 => ("ShadowTailor$Text", "signs", "[C", true)
  | _ => ("ShadowTailor$Text", "length", "I", false)
def tyX8 : Nat → FieldType := fun k => match k with
  | 0 => .array .char
  | _ => .int
abbrev wsX80 : List Cond := u_ws RX8 TX8 2
theorem nmX8 : ∀ a, a < 2 → ∀ b, b < 2 → a ≠ b → (TX8 a).2.1 ≠ (TX8 b).2.1 := by decide +kernel
theorem tyX8_ok : ∀ k, k < 2 → parseFieldDescriptor (TX8 k).2.2.1 = some (tyX8 k) := by decide +kernel
abbrev cX8_init : ByteArray := prog_10_method_1_code
def yX8_init : MethodName := ⟨RX8, "<init>", "()V"⟩
abbrev cX8_add : ByteArray := prog_10_method_2_code
def yX8_add : MethodName := ⟨RX8, "add", "(C)Z"⟩
abbrev cX8_put : ByteArray := prog_10_method_3_code
def yX8_put : MethodName := ⟨RX8, "put", "(Ljava/lang/String;)V"⟩
abbrev cX8_signAt : ByteArray := prog_10_method_4_code
def yX8_signAt : MethodName := ⟨RX8, "signAt", "(I)C"⟩
def RX9 : String := "ShadowTailor$TextReader"
def TX9 : u_T := fun k => match k with
  | _ => ("ShadowTailor$TextReader", "numbers", "[I", true)
def tyX9 : Nat → FieldType := fun k => match k with
  | _ => .array .int
abbrev wsX90 : List Cond := u_ws RX9 TX9 1
theorem nmX9 : ∀ a, a < 1 → ∀ b, b < 1 → a ≠ b → (TX9 a).2.1 ≠ (TX9 b).2.1 := by decide +kernel
theorem tyX9_ok : ∀ k, k < 1 → parseFieldDescriptor (TX9 k).2.2.1 = some (tyX9 k) := by decide +kernel
abbrev cX9_init : ByteArray := prog_11_method_1_code
def yX9_init : MethodName := ⟨RX9, "<init>", "()V"⟩
abbrev cX9_readInto : ByteArray := prog_11_method_2_code
def yX9_readInto : MethodName := ⟨RX9, "readInto", "(LShadowTailor$Text;LShadowTailor$Shop;)I"⟩
abbrev cX9_numbersOf : ByteArray := prog_11_method_3_code
def yX9_numbersOf : MethodName := ⟨RX9, "numbersOf", "(C)I"⟩
abbrev cX9_readNumbers : ByteArray := prog_11_method_4_code
def yX9_readNumbers : MethodName := ⟨RX9, "readNumbers", "(LShadowTailor$Text;II)I"⟩
abbrev cX9_figureAt : ByteArray := prog_11_method_5_code
def yX9_figureAt : MethodName := ⟨RX9, "figureAt", "(LShadowTailor$Text;I)I"⟩
abbrev cX9_addItem : ByteArray := prog_11_method_6_code
def yX9_addItem : MethodName := ⟨RX9, "addItem", "(LShadowTailor$Shop;C)Z"⟩
def RX10 : String := "ShadowTailor$Timetable"
def TX10 : u_T := fun k => match k with
  | 0 => ("ShadowTailor$Timetable", "choice", "[I", true)
  | 1 => ("ShadowTailor$Timetable", "best", "[I", true)
  | 2 => ("ShadowTailor$Timetable", "isKnown", "Z", false)
  | 3 => ("ShadowTailor$Timetable", "isFound", "Z", false)
  | 4 => ("ShadowTailor$Timetable", "leastLate", "I", false)
  | _ => ("ShadowTailor$Timetable", "leastHours", "I", false)
def tyX10 : Nat → FieldType := fun k => match k with
  | 0 => .array .int
  | 1 => .array .int
  | 2 => .boolean
  | 3 => .boolean
  | 4 => .int
  | _ => .int
abbrev wsX100 : List Cond := u_ws RX10 TX10 6
theorem nmX10 : ∀ a, a < 6 → ∀ b, b < 6 → a ≠ b → (TX10 a).2.1 ≠ (TX10 b).2.1 := by decide +kernel
theorem tyX10_ok : ∀ k, k < 6 → parseFieldDescriptor (TX10 k).2.2.1 = some (tyX10 k) := by decide +kernel
abbrev cX10_init : ByteArray := prog_12_method_1_code
def yX10_init : MethodName := ⟨RX10, "<init>", "()V"⟩
abbrev cX10_seek : ByteArray := prog_12_method_2_code
def yX10_seek : MethodName := ⟨RX10, "seek", "(LShadowTailor$Stock;)V"⟩
abbrev cX10_seekFrom : ByteArray := prog_12_method_3_code
def yX10_seekFrom : MethodName := ⟨RX10, "seekFrom", "(LShadowTailor$Stock;IIIII)V"⟩
abbrev cX10_take : ByteArray := prog_12_method_4_code
def yX10_take : MethodName := ⟨RX10, "take", "(LShadowTailor$Stock;II)V"⟩
def RX11 : String := "ShadowTailor"
def TX11 : u_T := fun k => match k with
  | 0 => ("ShadowTailor", "text", "LShadowTailor$Text;", true)
  | 1 => ("ShadowTailor", "reader", "LShadowTailor$TextReader;", true)
  | 2 => ("ShadowTailor", "changes", "LShadowTailor$Changes;", true)
  | 3 => ("ShadowTailor", "kept", "LShadowTailor$Kept;", true)
  | 4 => ("ShadowTailor", "sightings", "LShadowTailor$Sightings;", true)
  | 5 => ("ShadowTailor", "cutting", "LShadowTailor$Cutting;", true)
  | 6 => ("ShadowTailor", "timetable", "LShadowTailor$Timetable;", true)
  | 7 => ("ShadowTailor", "shop", "LShadowTailor$Shop;", false)
  | _ => ("ShadowTailor", "draft", "LShadowTailor$Shop;", false)
def tyX11 : Nat → FieldType := fun k => match k with
  | 0 => .object "ShadowTailor$Text"
  | 1 => .object "ShadowTailor$TextReader"
  | 2 => .object "ShadowTailor$Changes"
  | 3 => .object "ShadowTailor$Kept"
  | 4 => .object "ShadowTailor$Sightings"
  | 5 => .object "ShadowTailor$Cutting"
  | 6 => .object "ShadowTailor$Timetable"
  | 7 => .object "ShadowTailor$Shop"
  | _ => .object "ShadowTailor$Shop"
abbrev wsX110 : List Cond := u_ws RX11 TX11 9
theorem nmX11 : ∀ a, a < 9 → ∀ b, b < 9 → a ≠ b → (TX11 a).2.1 ≠ (TX11 b).2.1 := by decide +kernel
theorem tyX11_ok : ∀ k, k < 9 → parseFieldDescriptor (TX11 k).2.2.1 = some (tyX11 k) := by decide +kernel
abbrev cX11_init : ByteArray := prog_1_method_1_code
def yX11_init : MethodName := ⟨RX11, "<init>", "()V"⟩
abbrev cX11_write : ByteArray := prog_1_method_2_code
def yX11_write : MethodName := ⟨RX11, "write", "(I)I"⟩
abbrev cX11_wipe : ByteArray := prog_1_method_3_code
def yX11_wipe : MethodName := ⟨RX11, "wipe", "()I"⟩
abbrev cX11_fault : ByteArray := prog_1_method_4_code
def yX11_fault : MethodName := ⟨RX11, "fault", "()I"⟩
abbrev cX11_lay : ByteArray := prog_1_method_5_code
def yX11_lay : MethodName := ⟨RX11, "lay", "()I"⟩
abbrev cX11_person : ByteArray := prog_1_method_6_code
def yX11_person : MethodName := ⟨RX11, "person", "(II)I"⟩
abbrev cX11_where : ByteArray := prog_1_method_7_code
def yX11_where : MethodName := ⟨RX11, "where", "(II)I"⟩
abbrev cX11_shadow : ByteArray := prog_1_method_8_code
def yX11_shadow : MethodName := ⟨RX11, "shadow", "(III)I"⟩
abbrev cX11_covers : ByteArray := prog_1_method_9_code
def yX11_covers : MethodName := ⟨RX11, "covers", "(II)I"⟩
abbrev cX11_stands : ByteArray := prog_1_method_10_code
def yX11_stands : MethodName := ⟨RX11, "stands", "(II)I"⟩
abbrev cX11_wear : ByteArray := prog_1_method_11_code
def yX11_wear : MethodName := ⟨RX11, "wear", "(II)I"⟩
abbrev cX11_alter : ByteArray := prog_1_method_12_code
def yX11_alter : MethodName := ⟨RX11, "alter", "(II)I"⟩
abbrev cX11_walk : ByteArray := prog_1_method_13_code
def yX11_walk : MethodName := ⟨RX11, "walk", "(III)I"⟩
abbrev cX11_undo : ByteArray := prog_1_method_14_code
def yX11_undo : MethodName := ⟨RX11, "undo", "()I"⟩
abbrev cX11_first : ByteArray := prog_1_method_15_code
def yX11_first : MethodName := ⟨RX11, "first", "(I)I"⟩
abbrev cX11_broken : ByteArray := prog_1_method_16_code
def yX11_broken : MethodName := ⟨RX11, "broken", "()I"⟩
abbrev cX11_taken : ByteArray := prog_1_method_17_code
def yX11_taken : MethodName := ⟨RX11, "taken", "(III)I"⟩
abbrev cX11_seen : ByteArray := prog_1_method_18_code
def yX11_seen : MethodName := ⟨RX11, "seen", "(II)I"⟩
abbrev cX11_forget : ByteArray := prog_1_method_19_code
def yX11_forget : MethodName := ⟨RX11, "forget", "()I"⟩
abbrev cX11_whose : ByteArray := prog_1_method_20_code
def yX11_whose : MethodName := ⟨RX11, "whose", "()I"⟩
abbrev cX11_look : ByteArray := prog_1_method_21_code
def yX11_look : MethodName := ⟨RX11, "look", "(I)I"⟩
abbrev cX11_cut : ByteArray := prog_1_method_22_code
def yX11_cut : MethodName := ⟨RX11, "cut", "(I)I"⟩
abbrev cX11_fittings : ByteArray := prog_1_method_23_code
def yX11_fittings : MethodName := ⟨RX11, "fittings", "(I)I"⟩
abbrev cX11_watchers : ByteArray := prog_1_method_24_code
def yX11_watchers : MethodName := ⟨RX11, "watchers", "(II)I"⟩
abbrev cX11_poplar : ByteArray := prog_1_method_25_code
def yX11_poplar : MethodName := ⟨RX11, "poplar", "(II)I"⟩
abbrev cX11_light : ByteArray := prog_1_method_26_code
def yX11_light : MethodName := ⟨RX11, "light", "(I)I"⟩
abbrev cX11_clouds : ByteArray := prog_1_method_27_code
def yX11_clouds : MethodName := ⟨RX11, "clouds", "(IIIII)J"⟩
abbrev cX11_day : ByteArray := prog_1_method_28_code
def yX11_day : MethodName := ⟨RX11, "day", "(II)I"⟩
abbrev cX11_keep : ByteArray := prog_1_method_29_code
def yX11_keep : MethodName := ⟨RX11, "keep", "()I"⟩
abbrev cX11_back : ByteArray := prog_1_method_30_code
def yX11_back : MethodName := ⟨RX11, "back", "()I"⟩
abbrev cX11_count : ByteArray := prog_1_method_31_code
def yX11_count : MethodName := ⟨RX11, "count", "(I)I"⟩
abbrev cX11_isPerson : ByteArray := prog_1_method_32_code
def yX11_isPerson : MethodName := ⟨RX11, "isPerson", "(I)Z"⟩
abbrev cX11_standersAt : ByteArray := prog_1_method_33_code
def yX11_standersAt : MethodName := ⟨RX11, "standersAt", "(II)I"⟩
abbrev cX11_isHour : ByteArray := prog_1_method_34_code
def yX11_isHour : MethodName := ⟨RX11, "isHour", "(I)Z"⟩
abbrev cX11_areHours : ByteArray := prog_1_method_35_code
def yX11_areHours : MethodName := ⟨RX11, "areHours", "(II)Z"⟩
abbrev cX11_isCell : ByteArray := prog_1_method_36_code
def yX11_isCell : MethodName := ⟨RX11, "isCell", "(I)Z"⟩
abbrev cX11_isWithin : ByteArray := prog_1_method_37_code
def yX11_isWithin : MethodName := ⟨RX11, "isWithin", "(III)Z"⟩
abbrev cX11_commonDivisor : ByteArray := prog_1_method_38_code
def yX11_commonDivisor : MethodName := ⟨RX11, "commonDivisor", "(II)I"⟩
def RX12 : String := "ShadowTailorModel"
def TX12 : u_T := fun k => match k with
  | 0 => ("ShadowTailorModel", "persons", "I", false)
  | 1 => ("ShadowTailorModel", "person", "[I", true)
  | 2 => ("ShadowTailorModel", "laws", "I", false)
  | 3 => ("ShadowTailorModel", "law", "[I", true)
  | 4 => ("ShadowTailorModel", "remnants", "I", false)
  | 5 => ("ShadowTailorModel", "remnant", "[I", true)
  | 6 => ("ShadowTailorModel", "orders", "I", false)
  | 7 => ("ShadowTailorModel", "order", "[I", true)
  | 8 => ("ShadowTailorModel", "fittings", "I", false)
  | 9 => ("ShadowTailorModel", "fitting", "[I", true)
  | 10 => ("ShadowTailorModel", "st", "[I", true)
  | 11 => ("ShadowTailorModel", "acts", "I", false)
  | 12 => ("ShadowTailorModel", "was", "[I", true)
  | 13 => ("ShadowTailorModel", "keeps", "I", false)
  | 14 => ("ShadowTailorModel", "kept", "[I", true)
  | 15 => ("ShadowTailorModel", "seens", "I", false)
  | 16 => ("ShadowTailorModel", "seen", "[I", true)
  | 17 => ("ShadowTailorModel", "text", "[I", true)
  | 18 => ("ShadowTailorModel", "texted", "I", false)
  | 19 => ("ShadowTailorModel", "at", "I", false)
  | 20 => ("ShadowTailorModel", "told", "[I", true)
  | 21 => ("ShadowTailorModel", "readPersons", "I", false)
  | 22 => ("ShadowTailorModel", "readPerson", "[I", true)
  | 23 => ("ShadowTailorModel", "readLaws", "I", false)
  | 24 => ("ShadowTailorModel", "readLaw", "[I", true)
  | 25 => ("ShadowTailorModel", "readRemnants", "I", false)
  | 26 => ("ShadowTailorModel", "readRemnant", "[I", true)
  | 27 => ("ShadowTailorModel", "readOrders", "I", false)
  | 28 => ("ShadowTailorModel", "readOrder", "[I", true)
  | 29 => ("ShadowTailorModel", "readFittings", "I", false)
  | 30 => ("ShadowTailorModel", "readFitting", "[I", true)
  | 31 => ("ShadowTailorModel", "readSt", "[I", true)
  | 32 => ("ShadowTailorModel", "goes", "[I", true)
  | 33 => ("ShadowTailorModel", "seams", "I", false)
  | 34 => ("ShadowTailorModel", "waste", "I", false)
  | 35 => ("ShadowTailorModel", "row", "[I", true)
  | 36 => ("ShadowTailorModel", "late", "I", false)
  | _ => ("ShadowTailorModel", "hours", "I", false)
def tyX12 : Nat → FieldType := fun k => match k with
  | 0 => .int
  | 1 => .array .int
  | 2 => .int
  | 3 => .array .int
  | 4 => .int
  | 5 => .array .int
  | 6 => .int
  | 7 => .array .int
  | 8 => .int
  | 9 => .array .int
  | 10 => .array .int
  | 11 => .int
  | 12 => .array .int
  | 13 => .int
  | 14 => .array .int
  | 15 => .int
  | 16 => .array .int
  | 17 => .array .int
  | 18 => .int
  | 19 => .int
  | 20 => .array .int
  | 21 => .int
  | 22 => .array .int
  | 23 => .int
  | 24 => .array .int
  | 25 => .int
  | 26 => .array .int
  | 27 => .int
  | 28 => .array .int
  | 29 => .int
  | 30 => .array .int
  | 31 => .array .int
  | 32 => .array .int
  | 33 => .int
  | 34 => .int
  | 35 => .array .int
  | 36 => .int
  | _ => .int
abbrev wsX120 : List Cond := u_ws RX12 TX12 38
theorem nmX12 : ∀ a, a < 38 → ∀ b, b < 38 → a ≠ b → (TX12 a).2.1 ≠ (TX12 b).2.1 := by decide +kernel
theorem tyX12_ok : ∀ k, k < 38 → parseFieldDescriptor (TX12 k).2.2.1 = some (tyX12 k) := by decide +kernel
abbrev cX12_init : ByteArray := prog_14_method_1_code
def yX12_init : MethodName := ⟨RX12, "<init>", "()V"⟩
abbrev cX12_lays : ByteArray := prog_14_method_3_code
def yX12_lays : MethodName := ⟨RX12, "lays", "([IIIII)V"⟩
abbrev cX12_in : ByteArray := prog_14_method_4_code
def yX12_in : MethodName := ⟨RX12, "in", "(III)Z"⟩
abbrev cX12_has : ByteArray := prog_14_method_5_code
def yX12_has : MethodName := ⟨RX12, "has", "(II)Z"⟩
abbrev cX12_bits : ByteArray := prog_14_method_6_code
def yX12_bits : MethodName := ⟨RX12, "bits", "(I)I"⟩
abbrev cX12_isPerson : ByteArray := prog_14_method_7_code
def yX12_isPerson : MethodName := ⟨RX12, "isPerson", "(I)Z"⟩
abbrev cX12_isHour : ByteArray := prog_14_method_8_code
def yX12_isHour : MethodName := ⟨RX12, "isHour", "(I)Z"⟩
abbrev cX12_write : ByteArray := prog_14_method_9_code
def yX12_write : MethodName := ⟨RX12, "write", "(I)I"⟩
abbrev cX12_wipe : ByteArray := prog_14_method_10_code
def yX12_wipe : MethodName := ⟨RX12, "wipe", "()I"⟩
abbrev cX12_letterAt : ByteArray := prog_14_method_11_code
def yX12_letterAt : MethodName := ⟨RX12, "letterAt", "(I)I"⟩
abbrev cX12_isFigure : ByteArray := prog_14_method_12_code
def yX12_isFigure : MethodName := ⟨RX12, "isFigure", "(I)Z"⟩
abbrev cX12_readNumbers : ByteArray := prog_14_method_13_code
def yX12_readNumbers : MethodName := ⟨RX12, "readNumbers", "(I)Z"⟩
abbrev cX12_isTold : ByteArray := prog_14_method_14_code
def yX12_isTold : MethodName := ⟨RX12, "isTold", "(III)Z"⟩
abbrev cX12_put : ByteArray := prog_14_method_15_code
def yX12_put : MethodName := ⟨RX12, "put", "([II[II)V"⟩
abbrev cX12_readPersonOf : ByteArray := prog_14_method_16_code
def yX12_readPersonOf : MethodName := ⟨RX12, "readPersonOf", "()Z"⟩
abbrev cX12_isHourOfOne : ByteArray := prog_14_method_17_code
def yX12_isHourOfOne : MethodName := ⟨RX12, "isHourOfOne", "()Z"⟩
abbrev cX12_readWalk : ByteArray := prog_14_method_18_code
def yX12_readWalk : MethodName := ⟨RX12, "readWalk", "()Z"⟩
abbrev cX12_readLawOf : ByteArray := prog_14_method_19_code
def yX12_readLawOf : MethodName := ⟨RX12, "readLawOf", "()Z"⟩
abbrev cX12_readRemnantOf : ByteArray := prog_14_method_20_code
def yX12_readRemnantOf : MethodName := ⟨RX12, "readRemnantOf", "()Z"⟩
abbrev cX12_readOrderOf : ByteArray := prog_14_method_21_code
def yX12_readOrderOf : MethodName := ⟨RX12, "readOrderOf", "()Z"⟩
abbrev cX12_readFittingOf : ByteArray := prog_14_method_22_code
def yX12_readFittingOf : MethodName := ⟨RX12, "readFittingOf", "()Z"⟩
abbrev cX12_readItem : ByteArray := prog_14_method_23_code
def yX12_readItem : MethodName := ⟨RX12, "readItem", "()Z"⟩
abbrev cX12_fault : ByteArray := prog_14_method_24_code
def yX12_fault : MethodName := ⟨RX12, "fault", "()I"⟩
abbrev cX12_lay : ByteArray := prog_14_method_25_code
def yX12_lay : MethodName := ⟨RX12, "lay", "()I"⟩
abbrev cX12_whereAt : ByteArray := prog_14_method_26_code
def yX12_whereAt : MethodName := ⟨RX12, "whereAt", "(II)I"⟩
abbrev cX12_fromNoon : ByteArray := prog_14_method_27_code
def yX12_fromNoon : MethodName := ⟨RX12, "fromNoon", "(I)I"⟩
abbrev cX12_longBy : ByteArray := prog_14_method_28_code
def yX12_longBy : MethodName := ⟨RX12, "longBy", "(III)I"⟩
abbrev cX12_longAt : ByteArray := prog_14_method_29_code
def yX12_longAt : MethodName := ⟨RX12, "longAt", "(II)I"⟩
abbrev cX12_wayAt : ByteArray := prog_14_method_30_code
def yX12_wayAt : MethodName := ⟨RX12, "wayAt", "(II)I"⟩
abbrev cX12_endAt : ByteArray := prog_14_method_31_code
def yX12_endAt : MethodName := ⟨RX12, "endAt", "(II)I"⟩
abbrev cX12_reaches : ByteArray := prog_14_method_32_code
def yX12_reaches : MethodName := ⟨RX12, "reaches", "(IIII)Z"⟩
abbrev cX12_person : ByteArray := prog_14_method_33_code
def yX12_person : MethodName := ⟨RX12, "person", "(II)I"⟩
abbrev cX12_where : ByteArray := prog_14_method_34_code
def yX12_where : MethodName := ⟨RX12, "where", "(II)I"⟩
abbrev cX12_shadow : ByteArray := prog_14_method_35_code
def yX12_shadow : MethodName := ⟨RX12, "shadow", "(III)I"⟩
abbrev cX12_covers : ByteArray := prog_14_method_36_code
def yX12_covers : MethodName := ⟨RX12, "covers", "(II)I"⟩
abbrev cX12_standOn : ByteArray := prog_14_method_37_code
def yX12_standOn : MethodName := ⟨RX12, "standOn", "(III)I"⟩
abbrev cX12_standsAt : ByteArray := prog_14_method_38_code
def yX12_standsAt : MethodName := ⟨RX12, "standsAt", "(II)I"⟩
abbrev cX12_stands : ByteArray := prog_14_method_39_code
def yX12_stands : MethodName := ⟨RX12, "stands", "(II)I"⟩
abbrev cX12_wear : ByteArray := prog_14_method_40_code
def yX12_wear : MethodName := ⟨RX12, "wear", "(II)I"⟩
abbrev cX12_remembers : ByteArray := prog_14_method_41_code
def yX12_remembers : MethodName := ⟨RX12, "remembers", "()V"⟩
abbrev cX12_alter : ByteArray := prog_14_method_42_code
def yX12_alter : MethodName := ⟨RX12, "alter", "(II)I"⟩
abbrev cX12_walk : ByteArray := prog_14_method_43_code
def yX12_walk : MethodName := ⟨RX12, "walk", "(III)I"⟩
abbrev cX12_undo : ByteArray := prog_14_method_44_code
def yX12_undo : MethodName := ⟨RX12, "undo", "()I"⟩
abbrev cX12_first : ByteArray := prog_14_method_45_code
def yX12_first : MethodName := ⟨RX12, "first", "(I)I"⟩
abbrev cX12_lowest : ByteArray := prog_14_method_46_code
def yX12_lowest : MethodName := ⟨RX12, "lowest", "(I)I"⟩
abbrev cX12_broken : ByteArray := prog_14_method_47_code
def yX12_broken : MethodName := ⟨RX12, "broken", "()I"⟩
abbrev cX12_does : ByteArray := prog_14_method_48_code
def yX12_does : MethodName := ⟨RX12, "does", "(IIII)Z"⟩
abbrev cX12_taken : ByteArray := prog_14_method_49_code
def yX12_taken : MethodName := ⟨RX12, "taken", "(III)I"⟩
abbrev cX12_seen : ByteArray := prog_14_method_50_code
def yX12_seen : MethodName := ⟨RX12, "seen", "(II)I"⟩
abbrev cX12_forget : ByteArray := prog_14_method_51_code
def yX12_forget : MethodName := ⟨RX12, "forget", "()I"⟩
abbrev cX12_whose : ByteArray := prog_14_method_52_code
def yX12_whose : MethodName := ⟨RX12, "whose", "()I"⟩
abbrev cX12_alike : ByteArray := prog_14_method_53_code
def yX12_alike : MethodName := ⟨RX12, "alike", "(II)I"⟩
abbrev cX12_look : ByteArray := prog_14_method_54_code
def yX12_look : MethodName := ⟨RX12, "look", "(I)I"⟩
abbrev cX12_shares : ByteArray := prog_14_method_55_code
def yX12_shares : MethodName := ⟨RX12, "shares", "(I)Z"⟩
abbrev cX12_cut : ByteArray := prog_14_method_56_code
def yX12_cut : MethodName := ⟨RX12, "cut", "(I)I"⟩
abbrev cX12_arranges : ByteArray := prog_14_method_57_code
def yX12_arranges : MethodName := ⟨RX12, "arranges", "(I)V"⟩
abbrev cX12_fittings : ByteArray := prog_14_method_58_code
def yX12_fittings : MethodName := ⟨RX12, "fittings", "(I)I"⟩
abbrev cX12_most : ByteArray := prog_14_method_59_code
def yX12_most : MethodName := ⟨RX12, "most", "(II)I"⟩
abbrev cX12_lowAt : ByteArray := prog_14_method_60_code
def yX12_lowAt : MethodName := ⟨RX12, "lowAt", "(II)I"⟩
abbrev cX12_highAt : ByteArray := prog_14_method_61_code
def yX12_highAt : MethodName := ⟨RX12, "highAt", "(II)I"⟩
abbrev cX12_nearest : ByteArray := prog_14_method_62_code
def yX12_nearest : MethodName := ⟨RX12, "nearest", "(II)I"⟩
abbrev cX12_watchers : ByteArray := prog_14_method_63_code
def yX12_watchers : MethodName := ⟨RX12, "watchers", "(II)I"⟩
abbrev cX12_poplar : ByteArray := prog_14_method_64_code
def yX12_poplar : MethodName := ⟨RX12, "poplar", "(II)I"⟩
abbrev cX12_light : ByteArray := prog_14_method_65_code
def yX12_light : MethodName := ⟨RX12, "light", "(I)I"⟩
abbrev cX12_clouds : ByteArray := prog_14_method_66_code
def yX12_clouds : MethodName := ⟨RX12, "clouds", "(IIIII)J"⟩
abbrev cX12_drawn : ByteArray := prog_14_method_67_code
def yX12_drawn : MethodName := ⟨RX12, "drawn", "(III)I"⟩
abbrev cX12_day : ByteArray := prog_14_method_68_code
def yX12_day : MethodName := ⟨RX12, "day", "(II)I"⟩
abbrev cX12_keep : ByteArray := prog_14_method_69_code
def yX12_keep : MethodName := ⟨RX12, "keep", "()I"⟩
abbrev cX12_back : ByteArray := prog_14_method_70_code
def yX12_back : MethodName := ⟨RX12, "back", "()I"⟩
abbrev cX12_count : ByteArray := prog_14_method_71_code
def yX12_count : MethodName := ⟨RX12, "count", "(I)I"⟩
def RJ6 : String := "java/lang/Integer"
def TJ6 : u_T := fun k => match k with
  | _ => ("", "", "", false)
def tyJ6 : Nat → FieldType := fun k => match k with
  | _ => .int
abbrev wsJ60 : List Cond := u_ws RJ6 TJ6 0
abbrev cJ6_numberOfTrailingZeros_0f7a4 : ByteArray := prog_15_method_48_code
def yJ6_numberOfTrailingZeros_0f7a4 : MethodName := ⟨RJ6, "numberOfTrailingZeros", "(I)I"⟩
abbrev cJ6_bitCount_0f7a4 : ByteArray := prog_15_method_49_code
def yJ6_bitCount_0f7a4 : MethodName := ⟨RJ6, "bitCount", "(I)I"⟩
def RJ9 : String := "java/lang/Math"
def TJ9 : u_T := fun k => match k with
  | _ => ("", "", "", false)
def tyJ9 : Nat → FieldType := fun k => match k with
  | _ => .int
abbrev wsJ90 : List Cond := u_ws RJ9 TJ9 0
abbrev cJ9_abs_0f7a4 : ByteArray := prog_16_method_59_code
def yJ9_abs_0f7a4 : MethodName := ⟨RJ9, "abs", "(I)I"⟩
abbrev cJ9_max_7cf53 : ByteArray := prog_16_method_65_code
def yJ9_max_7cf53 : MethodName := ⟨RJ9, "max", "(II)I"⟩
abbrev cJ9_min_7cf53 : ByteArray := prog_16_method_69_code
def yJ9_min_7cf53 : MethodName := ⟨RJ9, "min", "(II)I"⟩
def RJ0 : String := "java/lang/String"
def TJ0 : u_T := fun k => match k with
  | _ => ("", "", "", false)
def tyJ0 : Nat → FieldType := fun k => match k with
  | _ => .int
abbrev wsJ00 : List Cond := u_ws RJ0 TJ0 0
abbrev cJ0_length_8abf5 : ByteArray := prog_17_method_54_code
def yJ0_length_8abf5 : MethodName := ⟨RJ0, "length", "()I"⟩
abbrev cJ0_charAt_5068e : ByteArray := prog_17_method_56_code
def yJ0_charAt_5068e : MethodName := ⟨RJ0, "charAt", "(I)C"⟩
abbrev cJ0_coder_7d493 : ByteArray := prog_17_method_152_code
def yJ0_coder_7d493 : MethodName := ⟨RJ0, "coder", "()B"⟩
abbrev cJ0_isLatin1_aae02 : ByteArray := prog_17_method_154_code
def yJ0_isLatin1_aae02 : MethodName := ⟨RJ0, "isLatin1", "()Z"⟩
abbrev cJ0_checkIndex_df160 : ByteArray := prog_17_method_155_code
def yJ0_checkIndex_df160 : MethodName := ⟨RJ0, "checkIndex", "(II)V"⟩
def RJ1 : String := "java/lang/StringLatin1"
def TJ1 : u_T := fun k => match k with
  | _ => ("", "", "", false)
def tyJ1 : Nat → FieldType := fun k => match k with
  | _ => .int
abbrev wsJ10 : List Cond := u_ws RJ1 TJ1 0
abbrev cJ1_charAt_3b067 : ByteArray := prog_18_method_2_code
def yJ1_charAt_3b067 : MethodName := ⟨RJ1, "charAt", "([BI)C"⟩
def RJ2 : String := "java/lang/StringUTF16"
def TJ2 : u_T := fun k => match k with
  | _ => ("", "", "", false)
def tyJ2 : Nat → FieldType := fun k => match k with
  | _ => .int
abbrev wsJ20 : List Cond := u_ws RJ2 TJ2 0
abbrev cJ2_getChar_3b067 : ByteArray := prog_19_method_5_code
def yJ2_getChar_3b067 : MethodName := ⟨RJ2, "getChar", "([BI)C"⟩
abbrev cJ2_length_9d52b : ByteArray := prog_19_method_6_code
def yJ2_length_9d52b : MethodName := ⟨RJ2, "length", "([B)I"⟩
abbrev cJ2_charAt_3b067 : ByteArray := prog_19_method_83_code
def yJ2_charAt_3b067 : MethodName := ⟨RJ2, "charAt", "([BI)C"⟩
abbrev cJ2_checkIndex_2214a : ByteArray := prog_19_method_91_code
def yJ2_checkIndex_2214a : MethodName := ⟨RJ2, "checkIndex", "(I[B)V"⟩
def RJ10 : String := "java/lang/System"
def TJ10 : u_T := fun k => match k with
  | _ => ("", "", "", false)
def tyJ10 : Nat → FieldType := fun k => match k with
  | _ => .int
abbrev wsJ100 : List Cond := u_ws RJ10 TJ10 0
def RJ3 : String := "jdk/internal/util/Preconditions"
def TJ3 : u_T := fun k => match k with
  | _ => ("", "", "", false)
def tyJ3 : Nat → FieldType := fun k => match k with
  | _ => .int
abbrev wsJ30 : List Cond := u_ws RJ3 TJ3 0
abbrev cJ3_checkIndex_8e157 : ByteArray := prog_21_method_11_code
def yJ3_checkIndex_8e157 : MethodName := ⟨RJ3, "checkIndex", "(IILjava/util/function/BiFunction;)I"⟩
def RL : String := "ShadowTailorLaw"
abbrev cL_law : ByteArray := code
def yL_law : MethodName := ⟨RL, "law", "([I)Z"⟩
abbrev vwCl : List vw_C := [(RX0, TX0, 3), (RX1, TX1, 7), (RX2, TX2, 2), (RX3, TX3, 2), (RX4, TX4, 3), (RX5, TX5, 5), (RX6, TX6, 7), (RX7, TX7, 10), (RX8, TX8, 2), (RX9, TX9, 1), (RX10, TX10, 6), (RX11, TX11, 9), (RX12, TX12, 38)]
theorem inX0 : ∀ w ∈ wsX00, w ∈ ax_tbl := by decide +kernel
theorem inX1 : ∀ w ∈ wsX10, w ∈ ax_tbl := by decide +kernel
theorem inX2 : ∀ w ∈ wsX20, w ∈ ax_tbl := by decide +kernel
theorem inX3 : ∀ w ∈ wsX30, w ∈ ax_tbl := by decide +kernel
theorem inX4 : ∀ w ∈ wsX40, w ∈ ax_tbl := by decide +kernel
theorem inX5 : ∀ w ∈ wsX50, w ∈ ax_tbl := by decide +kernel
theorem inX6 : ∀ w ∈ wsX60, w ∈ ax_tbl := by decide +kernel
theorem inX7 : ∀ w ∈ wsX70, w ∈ ax_tbl := by decide +kernel
theorem inX8 : ∀ w ∈ wsX80, w ∈ ax_tbl := by decide +kernel
theorem inX9 : ∀ w ∈ wsX90, w ∈ ax_tbl := by decide +kernel
theorem inX10 : ∀ w ∈ wsX100, w ∈ ax_tbl := by decide +kernel
theorem inX11 : ∀ w ∈ wsX110, w ∈ ax_tbl := by decide +kernel
theorem inX12 : ∀ w ∈ wsX120, w ∈ ax_tbl := by decide +kernel
end
section
/-! THE ABSTRACT MACHINE: a state is (pc, locals, stack, (shape, ints, refs)); a reference is the number of its cell; .retAddr 0 is the script, .retAddr 1 the text constant; .float 0 stands for a local that isn't set -/
abbrev ax_H : Type := List (Nat × Nat) × (Nat → Nat → Int32) × (Nat → Nat → Option Nat)
abbrev ax_S : Type := Nat × List Value × List Value × ax_H
abbrev ax_R : Type := Option Value × ax_H
abbrev ax_E : Type := Nat × (Nat → Int32)
abbrev ax_Cal : Type := Nat → List Value → ax_H → Option ax_R
abbrev ax_Act : Type := ax_E → ax_Cal → ax_S → Option (ax_S ⊕ ax_R)
def ax_nth {α : Type} : List α → Nat → Option α
  | [], _ => none
  | a :: _, 0 => some a
  | _ :: l, n + 1 => ax_nth l n
theorem ax_nth_eq {α : Type} : ∀ (l : List α) (i : Nat), ax_nth l i = l[i]?
  | [], _ => rfl
  | _ :: _, 0 => rfl
  | _ :: l, n + 1 => by rw [ax_nth, ax_nth_eq l n]; rfl
abbrev ax_T : Type := List (List (Option ax_Act))
/-- the row at a place: rows lie in sixteens -/
def ax_row (t : ax_T) (pc : Nat) : Option ax_Act := match ax_nth t (pc / 16) with
  | some r => match ax_nth r (pc % 16) with
    | some a => a
    | none => none
  | none => none
def ax_kill (ls : List Value) : Nat → List Value
  | 0 => ls
  | j + 1 => match ax_nth ls j with
    | some v => if v.category = 2 then ls.set j (.float 0) else ls
    | none => ls
def ax_st1 (ls : List Value) (i : Nat) (v : Value) : List Value := (ax_kill ls i).set i v
def ax_st2 (ls : List Value) (i : Nat) (v : Value) : List Value := ((ax_kill ls i).set i v).set (i + 1) (.float 0)
def ax_cats : List Value → Nat
  | [] => 0
  | v :: r => v.category + ax_cats r
-- constants, loads, stores
def a_iconst (v : Int32) (n : Nat) : ax_Act := fun _ _ S => match S with
  | (_, ls, st, h) => some (.inl (n, ls, .int v :: st, h))
def a_lconst (v : Int64) (n : Nat) : ax_Act := fun _ _ S => match S with
  | (_, ls, st, h) => some (.inl (n, ls, .long v :: st, h))
def a_ldcs (n : Nat) : ax_Act := fun _ _ S => match S with
  | (_, ls, st, h) => some (.inl (n, ls, .retAddr 1 :: st, h))
def a_iload (i n : Nat) : ax_Act := fun _ _ S => match S with
  | (_, ls, st, h) => match ax_nth ls i with
    | some (.int x) => some (.inl (n, ls, .int x :: st, h))
    | _ => none
def a_lload (i n : Nat) : ax_Act := fun _ _ S => match S with
  | (_, ls, st, h) => match ax_nth ls i with
    | some (.long x) => some (.inl (n, ls, .long x :: st, h))
    | _ => none
def a_aload (i n : Nat) : ax_Act := fun _ _ S => match S with
  | (_, ls, st, h) => match ax_nth ls i with
    | some (.ref x) => some (.inl (n, ls, .ref x :: st, h))
    | some (.retAddr x) => some (.inl (n, ls, .retAddr x :: st, h))
    | _ => none
def a_istore (i n : Nat) : ax_Act := fun _ _ S => match S with
  | (_, ls, .int x :: st, h) => some (.inl (n, ax_st1 ls i (.int x), st, h))
  | _ => none
def a_lstore (i n : Nat) : ax_Act := fun _ _ S => match S with
  | (_, ls, .long x :: st, h) => some (.inl (n, ax_st2 ls i (.long x), st, h))
  | _ => none
def a_astore (i n : Nat) : ax_Act := fun _ _ S => match S with
  | (_, ls, .ref x :: st, h) => some (.inl (n, ax_st1 ls i (.ref x), st, h))
  | _ => none
def a_iinc (i : Nat) (k : Int32) (n : Nat) : ax_Act := fun _ _ S => match S with
  | (_, ls, st, h) => match ax_nth ls i with
    | some (.int x) => some (.inl (n, ax_st1 ls i (.int (x + k)), st, h))
    | _ => none
-- stack
def a_dup (n : Nat) : ax_Act := fun _ _ S => match S with
  | (_, ls, v :: st, h) => if v.category = 1 then some (.inl (n, ls, v :: v :: st, h)) else none
  | _ => none
def a_dup2 (n : Nat) : ax_Act := fun _ _ S => match S with
  | (_, ls, v :: w :: st, h) => if v.category = 1 ∧ w.category = 1 then some (.inl (n, ls, v :: w :: v :: w :: st, h)) else none
  | _ => none
def a_pop (n : Nat) : ax_Act := fun _ _ S => match S with
  | (_, ls, v :: st, h) => if v.category = 1 then some (.inl (n, ls, st, h)) else none
  | _ => none
-- arithmetic
def a_iadd (n : Nat) : ax_Act := fun _ _ S => match S with
  | (_, ls, .int y :: .int x :: st, h) => some (.inl (n, ls, .int (x + y) :: st, h))
  | _ => none
def a_isub (n : Nat) : ax_Act := fun _ _ S => match S with
  | (_, ls, .int y :: .int x :: st, h) => some (.inl (n, ls, .int (x - y) :: st, h))
  | _ => none
def a_imul (n : Nat) : ax_Act := fun _ _ S => match S with
  | (_, ls, .int y :: .int x :: st, h) => some (.inl (n, ls, .int (x * y) :: st, h))
  | _ => none
def a_iand (n : Nat) : ax_Act := fun _ _ S => match S with
  | (_, ls, .int y :: .int x :: st, h) => some (.inl (n, ls, .int (x &&& y) :: st, h))
  | _ => none
def a_ior (n : Nat) : ax_Act := fun _ _ S => match S with
  | (_, ls, .int y :: .int x :: st, h) => some (.inl (n, ls, .int (x ||| y) :: st, h))
  | _ => none
def a_ixor (n : Nat) : ax_Act := fun _ _ S => match S with
  | (_, ls, .int y :: .int x :: st, h) => some (.inl (n, ls, .int (x ^^^ y) :: st, h))
  | _ => none
def a_ishl (n : Nat) : ax_Act := fun _ _ S => match S with
  | (_, ls, .int y :: .int x :: st, h) => some (.inl (n, ls, .int (x <<< (y &&& 31)) :: st, h))
  | _ => none
def a_ishr (n : Nat) : ax_Act := fun _ _ S => match S with
  | (_, ls, .int y :: .int x :: st, h) => some (.inl (n, ls, .int (x >>> (y &&& 31)) :: st, h))
  | _ => none
def a_iushr (n : Nat) : ax_Act := fun _ _ S => match S with
  | (_, ls, .int y :: .int x :: st, h) => some (.inl (n, ls, .int (x.toUInt32 >>> (y.toUInt32 &&& Int32.toUInt32 31)).toInt32 :: st, h))
  | _ => none
def a_idiv (n : Nat) : ax_Act := fun _ _ S => match S with
  | (_, ls, .int y :: .int x :: st, h) => if y = 0 then none else some (.inl (n, ls, .int (x / y) :: st, h))
  | _ => none
def a_irem (n : Nat) : ax_Act := fun _ _ S => match S with
  | (_, ls, .int y :: .int x :: st, h) => if y = 0 then none else some (.inl (n, ls, .int (x - x / y * y) :: st, h))
  | _ => none
def a_ineg (n : Nat) : ax_Act := fun _ _ S => match S with
  | (_, ls, .int x :: st, h) => some (.inl (n, ls, .int (-x) :: st, h))
  | _ => none
def a_i2l (n : Nat) : ax_Act := fun _ _ S => match S with
  | (_, ls, .int x :: st, h) => some (.inl (n, ls, .long x.toInt64 :: st, h))
  | _ => none
def a_l2i (n : Nat) : ax_Act := fun _ _ S => match S with
  | (_, ls, .long x :: st, h) => some (.inl (n, ls, .int x.toInt32 :: st, h))
  | _ => none
def a_i2c (n : Nat) : ax_Act := fun _ _ S => match S with
  | (_, ls, .int x :: st, h) => some (.inl (n, ls, .int (x.toUInt32 % 65536).toInt32 :: st, h))
  | _ => none
def a_ladd (n : Nat) : ax_Act := fun _ _ S => match S with
  | (_, ls, .long y :: .long x :: st, h) => some (.inl (n, ls, .long (x + y) :: st, h))
  | _ => none
def a_lmul (n : Nat) : ax_Act := fun _ _ S => match S with
  | (_, ls, .long y :: .long x :: st, h) => some (.inl (n, ls, .long (x * y) :: st, h))
  | _ => none
def a_ldiv (n : Nat) : ax_Act := fun _ _ S => match S with
  | (_, ls, .long y :: .long x :: st, h) => if y = 0 then none else some (.inl (n, ls, .long (x / y) :: st, h))
  | _ => none
def a_lrem (n : Nat) : ax_Act := fun _ _ S => match S with
  | (_, ls, .long y :: .long x :: st, h) => if y = 0 then none else some (.inl (n, ls, .long (x - x / y * y) :: st, h))
  | _ => none
def a_lcmp (n : Nat) : ax_Act := fun _ _ S => match S with
  | (_, ls, .long y :: .long x :: st, h) => some (.inl (n, ls, .int (lg_cmp x y) :: st, h))
  | _ => none
-- branches
def a_goto (t : Nat) : ax_Act := fun _ _ S => match S with
  | (_, ls, st, h) => some (.inl (t, ls, st, h))
def a_ceq (t n : Nat) : ax_Act := fun _ _ S => match S with
  | (_, ls, .int y :: .int x :: st, h) => if x = y then some (.inl (t, ls, st, h)) else some (.inl (n, ls, st, h))
  | _ => none
def a_cne (t n : Nat) : ax_Act := fun _ _ S => match S with
  | (_, ls, .int y :: .int x :: st, h) => if x = y then some (.inl (n, ls, st, h)) else some (.inl (t, ls, st, h))
  | _ => none
def a_clt (t n : Nat) : ax_Act := fun _ _ S => match S with
  | (_, ls, .int y :: .int x :: st, h) => if x < y then some (.inl (t, ls, st, h)) else some (.inl (n, ls, st, h))
  | _ => none
def a_cge (t n : Nat) : ax_Act := fun _ _ S => match S with
  | (_, ls, .int y :: .int x :: st, h) => if y ≤ x then some (.inl (t, ls, st, h)) else some (.inl (n, ls, st, h))
  | _ => none
def a_cgt (t n : Nat) : ax_Act := fun _ _ S => match S with
  | (_, ls, .int y :: .int x :: st, h) => if y < x then some (.inl (t, ls, st, h)) else some (.inl (n, ls, st, h))
  | _ => none
def a_cle (t n : Nat) : ax_Act := fun _ _ S => match S with
  | (_, ls, .int y :: .int x :: st, h) => if x ≤ y then some (.inl (t, ls, st, h)) else some (.inl (n, ls, st, h))
  | _ => none
def a_zeq (t n : Nat) : ax_Act := fun _ _ S => match S with
  | (_, ls, .int x :: st, h) => if x = 0 then some (.inl (t, ls, st, h)) else some (.inl (n, ls, st, h))
  | _ => none
def a_zne (t n : Nat) : ax_Act := fun _ _ S => match S with
  | (_, ls, .int x :: st, h) => if x = 0 then some (.inl (n, ls, st, h)) else some (.inl (t, ls, st, h))
  | _ => none
def a_zlt (t n : Nat) : ax_Act := fun _ _ S => match S with
  | (_, ls, .int x :: st, h) => if x < 0 then some (.inl (t, ls, st, h)) else some (.inl (n, ls, st, h))
  | _ => none
def a_zge (t n : Nat) : ax_Act := fun _ _ S => match S with
  | (_, ls, .int x :: st, h) => if 0 ≤ x then some (.inl (t, ls, st, h)) else some (.inl (n, ls, st, h))
  | _ => none
def a_zgt (t n : Nat) : ax_Act := fun _ _ S => match S with
  | (_, ls, .int x :: st, h) => if 0 < x then some (.inl (t, ls, st, h)) else some (.inl (n, ls, st, h))
  | _ => none
def a_zle (t n : Nat) : ax_Act := fun _ _ S => match S with
  | (_, ls, .int x :: st, h) => if x ≤ 0 then some (.inl (t, ls, st, h)) else some (.inl (n, ls, st, h))
  | _ => none
/-- where a table's row leads -/
def ax_sw (lo hi : Int) (ts : List Nat) (d : Nat) (x : Int) : Nat := if x < lo ∨ hi < x then d else (ax_nth ts (x - lo).toNat).getD d
def a_tsw (lo hi : Int) (ts : List Nat) (d : Nat) : ax_Act := fun _ _ S => match S with
  | (_, ls, .int x :: st, h) => some (.inl (ax_sw lo hi ts d x.toInt, ls, st, h))
  | _ => none
-- objects and arrays
def a_getI (ci N k n : Nat) : ax_Act := fun _ _ S => match S with
  | (_, ls, .ref q :: st, sh, I, R) => match ax_nth sh q with
    | some c => if c = (ci, N) then some (.inl (n, ls, .int (I q k) :: st, sh, I, R)) else none
    | none => none
  | _ => none
def a_getR (ci N k n : Nat) : ax_Act := fun _ _ S => match S with
  | (_, ls, .ref q :: st, sh, I, R) => match ax_nth sh q with
    | some c => if c = (ci, N) then match R q k with
      | some j => some (.inl (n, ls, .ref j :: st, sh, I, R))
      | none => none
      else none
    | none => none
  | _ => none
def a_putI (ci N k n : Nat) : ax_Act := fun _ _ S => match S with
  | (_, ls, .int x :: .ref q :: st, sh, I, R) => match ax_nth sh q with
    | some c => if c = (ci, N) then some (.inl (n, ls, st, sh, va_up I q (upd (I q) k x), R)) else none
    | none => none
  | _ => none
def a_putZ (ci N k n : Nat) : ax_Act := fun _ _ S => match S with
  | (_, ls, .int x :: .ref q :: st, sh, I, R) => match ax_nth sh q with
    | some c => if c = (ci, N) ∧ (x = 0 ∨ x = 1) then some (.inl (n, ls, st, sh, va_up I q (upd (I q) k x), R)) else none
    | none => none
  | _ => none
def a_putR (ci N k n : Nat) : ax_Act := fun _ _ S => match S with
  | (_, ls, .ref x :: .ref q :: st, sh, I, R) => match ax_nth sh q with
    | some c => if c = (ci, N) then some (.inl (n, ls, st, sh, I, va_up R q (va_up (R q) k (some x)))) else none
    | none => none
  | _ => none
def a_iald (n : Nat) : ax_Act := fun _ _ S => match S with
  | (_, ls, .int i :: .ref q :: st, sh, I, R) => match ax_nth sh q with
    | some c => if c.1 = 100 then (if i < 0 ∨ c.2 ≤ i.toNatClampNeg then none else some (.inl (n, ls, .int (I q i.toNatClampNeg) :: st, sh, I, R))) else none
    | none => none
  | _ => none
def a_sald (n : Nat) : ax_Act := fun E _ S => match S with
  | (_, ls, .int i :: .retAddr 0 :: st, h) => if i < 0 ∨ E.1 ≤ i.toNatClampNeg then none else some (.inl (n, ls, .int (E.2 i.toNatClampNeg) :: st, h))
  | _ => none
def a_slen (n : Nat) : ax_Act := fun E _ S => match S with
  | (_, ls, .retAddr 0 :: st, h) => some (.inl (n, ls, .int (Int32.ofNat E.1) :: st, h))
  | _ => none
def a_cald (n : Nat) : ax_Act := fun _ _ S => match S with
  | (_, ls, .int i :: .ref q :: st, sh, I, R) => match ax_nth sh q with
    | some c => if c.1 = 101 then (if i < 0 ∨ c.2 ≤ i.toNatClampNeg then none else some (.inl (n, ls, .int (I q i.toNatClampNeg) :: st, sh, I, R))) else none
    | none => none
  | _ => none
def a_aald (n : Nat) : ax_Act := fun _ _ S => match S with
  | (_, ls, .int i :: .ref q :: st, sh, I, R) => match ax_nth sh q with
    | some c => if c.1 = 102 then (if i < 0 ∨ c.2 ≤ i.toNatClampNeg then none else match R q i.toNatClampNeg with
      | some j => some (.inl (n, ls, .ref j :: st, sh, I, R))
      | none => none) else none
    | none => none
  | _ => none
def a_iast (n : Nat) : ax_Act := fun _ _ S => match S with
  | (_, ls, .int x :: .int i :: .ref q :: st, sh, I, R) => match ax_nth sh q with
    | some c => if c.1 = 100 then (if i < 0 ∨ c.2 ≤ i.toNatClampNeg then none else some (.inl (n, ls, st, sh, va_up I q (upd (I q) i.toNatClampNeg x), R))) else none
    | none => none
  | _ => none
def a_cast (n : Nat) : ax_Act := fun _ _ S => match S with
  | (_, ls, .int x :: .int i :: .ref q :: st, sh, I, R) => match ax_nth sh q with
    | some c => if c.1 = 101 then (if i < 0 ∨ c.2 ≤ i.toNatClampNeg then none else some (.inl (n, ls, st, sh, va_up I q (upd (I q) i.toNatClampNeg (vp_nar .char x)), R))) else none
    | none => none
  | _ => none
def a_aast (n : Nat) : ax_Act := fun _ _ S => match S with
  | (_, ls, .ref x :: .int i :: .ref q :: st, sh, I, R) => match ax_nth sh q with
    | some c => if c.1 = 102 ∧ ax_nth sh x = some (5, 5) then (if i < 0 ∨ c.2 ≤ i.toNatClampNeg then none else some (.inl (n, ls, st, sh, I, va_up R q (va_up (R q) i.toNatClampNeg (some x))))) else none
    | none => none
  | _ => none
/-- System.arraycopy over two int arrays, whole places from 0 on -/
def a_acpy (n : Nat) : ax_Act := fun _ _ S => match S with
  | (_, ls, .int c :: .int dp :: .ref b :: .int sp :: .ref a :: st, sh, I, R) => match ax_nth sh a, ax_nth sh b with
    | some ca, some cb => if ca.1 = 100 ∧ cb.1 = 100 ∧ sp = 0 ∧ dp = 0 ∧ ¬ c < 0 ∧ c.toNatClampNeg ≤ ca.2 ∧ c.toNatClampNeg ≤ cb.2 ∧ ax_cats st ≤ 8 then some (.inl (n, ls, st, sh, va_up I b (va_cpy (I a) (I b) 0 0 c.toNatClampNeg), R)) else none
    | _, _ => none
  | _ => none
-- making
def a_new (ci N n : Nat) : ax_Act := fun _ _ S => match S with
  | (_, ls, st, sh, I, R) => some (.inl (n, ls, .ref sh.length :: st, sh ++ [(ci, N)], va_up I sh.length (fun _ => 0), va_up R sh.length (fun _ => none)))
def a_newa (kd N n : Nat) : ax_Act := fun _ _ S => match S with
  | (_, ls, .int x :: st, sh, I, R) => if x = Int32.ofNat N then some (.inl (n, ls, .ref sh.length :: st, sh ++ [(kd, N)], va_up I sh.length (fun _ => 0), va_up R sh.length (fun _ => none))) else none
  | _ => none
-- calls
def ax_back (o : Option ax_R) (n : Nat) (ls rest : List Value) : Option (ax_S ⊕ ax_R) := match o with
  | none => none
  | some q => some (.inl (n, ls, q.1.toList ++ rest, q.2))
def a_callS (y k n : Nat) : ax_Act := fun _ cal S => match S with
  | (_, ls, st, h) => if k ≤ st.length ∧ ax_cats (st.drop k) ≤ 8 then ax_back (cal y (st.take k).reverse h) n ls (st.drop k) else none
/-- a call on an object of the class ci: k arguments beside it -/
def a_callV (ci N y k n : Nat) : ax_Act := fun _ cal S => match S with
  | (_, ls, st, h) => match ax_nth st k with
    | some (.ref q) => if ax_nth h.1 q = some (ci, N) ∧ ax_cats (st.drop (k + 1)) ≤ 8 then ax_back (cal y (st.take (k + 1)).reverse h) n ls (st.drop (k + 1)) else none
    | _ => none
def a_oinit (n : Nat) : ax_Act := fun _ _ S => match S with
  | (_, ls, .ref _ :: st, h) => if ax_cats st ≤ 8 then some (.inl (n, ls, st, h)) else none
  | _ => none
-- returns
def a_iret : ax_Act := fun _ _ S => match S with
  | (_, _, [.int x], h) => some (.inr (some (.int x), h))
  | _ => none
def a_zret : ax_Act := fun _ _ S => match S with
  | (_, _, [.int x], h) => if x = 0 ∨ x = 1 then some (.inr (some (.int x), h)) else none
  | _ => none
def a_cret : ax_Act := fun _ _ S => match S with
  | (_, _, [.int x], h) => if vp_nar .char x = x then some (.inr (some (.int x), h)) else none
  | _ => none
def a_lret : ax_Act := fun _ _ S => match S with
  | (_, _, [.long x], h) => some (.inr (some (.long x), h))
  | _ => none
def a_aret : ax_Act := fun _ _ S => match S with
  | (_, _, [.ref x], h) => some (.inr (some (.ref x), h))
  | _ => none
def a_vret : ax_Act := fun _ _ S => match S with
  | (_, _, [], h) => some (.inr (none, h))
  | _ => none
/-- a step, a run -/
def ax_step (E : ax_E) (cal : ax_Cal) (t : ax_T) (S : ax_S) : Option (ax_S ⊕ ax_R) := match ax_row t S.1 with
  | some a => a E cal S
  | none => none
def ax_run (E : ax_E) (cal : ax_Cal) (t : ax_T) : Nat → ax_S → Option ax_R
  | 0, _ => none
  | n + 1, S => match ax_step E cal t S with
    | some (.inl S') => ax_run E cal t n S'
    | some (.inr r) => some r
    | none => none
theorem ax_run_more {E : ax_E} {cal : ax_Cal} {t : ax_T} : ∀ {n : Nat} {S : ax_S} {r : ax_R}, ax_run E cal t n S = some r → ∀ k, ax_run E cal t (n + k) S = some r
  | 0, S, r, h, k => by cases h
  | n + 1, S, r, h, k => by
    rw [show n + 1 + k = (n + k) + 1 by omega, ax_run]
    rw [ax_run] at h
    cases hs : ax_step E cal t S with
    | none => rw [hs] at h; cases h
    | some o =>
      rw [hs] at h
      cases o with
      | inl S' => exact ax_run_more h k
      | inr q => exact h
theorem ax_run_one {E : ax_E} {cal : ax_Cal} {t : ax_T} {n n' : Nat} {S : ax_S} {r r' : ax_R} (h : ax_run E cal t n S = some r) (h' : ax_run E cal t n' S = some r') : r = r' := by
  have a := ax_run_more h n'
  have b := ax_run_more h' n
  rw [Nat.add_comm n' n, a] at b
  exact Option.some.inj b
/-- the run from a state on ends, with Q -/
def AW (E : ax_E) (cal : ax_Cal) (t : ax_T) (S : ax_S) (Q : Option Value → ax_H → Prop) : Prop := ∃ n r h, ax_run E cal t n S = some (r, h) ∧ Q r h
section AXR
variable {E : ax_E} {cal : ax_Cal} {t : ax_T} {S S' S1 S2 : ax_S} {Q : Option Value → ax_H → Prop}
theorem ax_s (h : ax_step E cal t S = some (.inl S')) (k : AW E cal t S' Q) : AW E cal t S Q := by
  obtain ⟨n, r, g, a, b⟩ := k
  exact ⟨n + 1, r, g, by rw [ax_run, h]; exact a, b⟩
theorem ax_b {c : Prop} [Decidable c] (h : ax_step E cal t S = if c then some (.inl S1) else some (.inl S2)) (k1 : c → AW E cal t S1 Q) (k2 : ¬ c → AW E cal t S2 Q) : AW E cal t S Q := by
  by_cases hc : c
  · exact ax_s (by rw [h, if_pos hc]) (k1 hc)
  · exact ax_s (by rw [h, if_neg hc]) (k2 hc)
/-- a test that is known -/
theorem ax_bt {c : Prop} [Decidable c] {o : Option (ax_S ⊕ ax_R)} (h : ax_step E cal t S = if c then some (.inl S1) else o) (hc : c) (k1 : AW E cal t S1 Q) : AW E cal t S Q := ax_s (by rw [h, if_pos hc]) k1
theorem ax_bf {c : Prop} [Decidable c] {o : Option (ax_S ⊕ ax_R)} (h : ax_step E cal t S = if c then o else some (.inl S2)) (hc : ¬ c) (k2 : AW E cal t S2 Q) : AW E cal t S Q := ax_s (by rw [h, if_neg hc]) k2
/-- a call -/
theorem ax_c {y n : Nat} {as ls rest : List Value} {h0 : ax_H} {q : ax_R} (h : ax_step E cal t S = ax_back (cal y as h0) n ls rest) (hc : cal y as h0 = some q) (k : AW E cal t (n, ls, q.1.toList ++ rest, q.2) Q) : AW E cal t S Q := ax_s (by rw [h, hc]; rfl) k
theorem ax_r {r : Option Value} {g : ax_H} (h : ax_step E cal t S = some (.inr (r, g))) (k : Q r g) : AW E cal t S Q := ⟨1, r, g, by rw [ax_run, h], k⟩
theorem ax_rt {c : Prop} [Decidable c] {o : Option (ax_S ⊕ ax_R)} {r : Option Value} {g : ax_H} (h : ax_step E cal t S = if c then some (.inr (r, g)) else o) (hc : c) (k : Q r g) : AW E cal t S Q := ax_r (by rw [h, if_pos hc]) k
theorem ax_mono {Q' : Option Value → ax_H → Prop} (k : AW E cal t S Q') (h : ∀ r g, Q' r g → Q r g) : AW E cal t S Q := by
  obtain ⟨n, r, g, a, b⟩ := k
  exact ⟨n, r, g, a, h r g b⟩
end AXR
/-- a number of steps without a return -/
def ax_go (E : ax_E) (cal : ax_Cal) (t : ax_T) : Nat → ax_S → ax_S → Prop
  | 0, S, S' => S = S'
  | n + 1, S, S' => ∃ S1, ax_step E cal t S = some (.inl S1) ∧ ax_go E cal t n S1 S'
end
section
/-! the abstract heap as a world of the kit's -/
abbrev ax_G : Type := va_G × ClassId × ClassId × ClassId
abbrev ax_Z : Type := (Nat → Nat) × Nat × Nat
def ax_rv (z : ax_Z) : Value → Value
  | .ref k => .ref (z.1 k)
  | .retAddr k => .ref (if k = 0 then z.2.1 else z.2.2)
  | v => v
theorem ax_rv_cat (z : ax_Z) (v : Value) : (ax_rv z v).category = v.category := by cases v <;> rfl
theorem ax_cats_map (z : ax_Z) : ∀ l : List Value, ((l.map (ax_rv z)).map fun v => v.category).sum = ax_cats l
  | [] => rfl
  | v :: l => by
    rw [List.map_cons, List.map_cons, List.sum_cons, ax_cats_map z l, ax_rv_cat]; rfl
/-- which fields hold references, a class a row (by vwCl) -/
def ax_rft : List (List Bool) := [[true, true, false], [true, true, true, false, false, false, false], [true, false], [true, true], [true, true, false], [true, true, true, true, false], [true, true, true, true, false, false, false], [true, true, true, true, true, true, true, true, false, false], [true, false], [true], [true, true, false, false, false, false], [true, true, true, true, true, true, true, true, true], [false, true, false, true, false, true, false, true, false, true, true, false, true, false, true, false, true, true, false, false, true, false, true, false, true, false, true, false, true, false, true, true, true, false, false, true, false, false]]
def ax_isr (ci k : Nat) : Bool := match ax_nth ax_rft ci with
  | some l => match ax_nth l k with
    | some b => b
    | none => false
  | none => false
def ax_fs (rz : Nat → Nat) (ci N : Nat) (f : Nat → Int32) (r : Nat → Option Nat) : List Value := (List.range N).map (fun k => if ax_isr ci k = true then va_rf ((r k).map rz) else .int (f k))
def ax_cell (G : ax_G) (rz : Nat → Nat) (c : Nat × Nat) (f : Nat → Int32) (r : Nat → Option Nat) : va_E :=
  if c.1 = 100 then .inl (G.2.1, c.2, .inl f) else if c.1 = 101 then .inl (G.2.2.1, c.2, .inl f) else if c.1 = 102 then .inl (G.2.2.2, c.2, .inr (.inr (.inr (.inr (fun j => (r j).map rz))))) else .inr (c.1, ax_fs rz c.1 c.2 f r)
def ax_ws (G : ax_G) (rz : Nat → Nat) (h : ax_H) : va_W := (List.range h.1.length).map (fun i => (rz i, ax_cell G rz ((ax_nth h.1 i).getD (0, 0)) (h.2.1 i) (h.2.2 i)))
def ax_tys (G : ax_G) : List (ClassId × FieldType) := [(G.2.1, .int), (G.2.2.1, .char), (G.2.2.2, .object "ShadowTailor$State")]
def ax_ok (G : ax_G) (base : Nat) (rz : Nat → Nat) (h : ax_H) (H : Heap) : Prop :=
  H.size = base + h.1.length ∧ (∀ i, base ≤ rz i) ∧ (∀ i j, rz i = rz j → i = j) ∧ (∀ i, h.1.length ≤ i → rz i = base + i) ∧ va_P G.1 vwCl (ax_ws G rz h) H
def ax_slt (h : ax_H) : Nat := (h.1.map (fun q => q.2)).sum
theorem ax_nth_lt {α : Type} {l : List α} {i : Nat} {c : α} (h : ax_nth l i = some c) : i < l.length := by
  rw [ax_nth_eq] at h; exact (List.getElem?_eq_some_iff.mp h).1
theorem ax_ws_len (G : ax_G) (rz : Nat → Nat) (h : ax_H) : (ax_ws G rz h).length = h.1.length := by simp [ax_ws]
theorem ax_ws_i (G : ax_G) (rz : Nat → Nat) (h : ax_H) {i : Nat} (hl : i < h.1.length) : (ax_ws G rz h)[i]? = some (rz i, ax_cell G rz ((ax_nth h.1 i).getD (0, 0)) (h.2.1 i) (h.2.2 i)) := by
  simp [ax_ws, List.getElem?_map, hl]
theorem ax_ws_get (G : ax_G) (rz : Nat → Nat) {h : ax_H} {i : Nat} {c : Nat × Nat} (hc : ax_nth h.1 i = some c) : (ax_ws G rz h)[i]? = some (rz i, ax_cell G rz c (h.2.1 i) (h.2.2 i)) := by
  rw [ax_ws_i G rz h (ax_nth_lt hc), hc]; rfl
theorem ax_ws_at (G : ax_G) (rz : Nat → Nat) (h : ax_H) {i : Nat} {q : Nat × va_E} (hq : (ax_ws G rz h)[i]? = some q) : i < h.1.length ∧ q.1 = rz i := by
  have hl : i < h.1.length := by rw [← ax_ws_len G rz h]; exact (List.getElem?_eq_some_iff.mp hq).1
  refine ⟨hl, ?_⟩
  rw [ax_ws_i G rz h hl] at hq
  rw [← Option.some.inj hq]
theorem ax_D {G : ax_G} {base : Nat} {rz : Nat → Nat} {h : ax_H} {H : Heap} (hk : ax_ok G base rz h H) : va_D (fun q => base ≤ q) (ax_ws G rz h) := by
  refine ⟨fun i j p q hp hq hpq => ?_, fun k q hq => ?_⟩
  · exact hk.2.2.1 i j (by rw [← (ax_ws_at G rz h hp).2, ← (ax_ws_at G rz h hq).2]; exact hpq)
  · show base ≤ q.1
    rw [(ax_ws_at G rz h hq).2]; exact hk.2.1 k
theorem ax_ws_set (G : ax_G) (rz : Nat → Nat) {sh : List (Nat × Nat)} {I : Nat → Nat → Int32} {R : Nat → Nat → Option Nat} {i : Nat} {c : Nat × Nat} (hc : ax_nth sh i = some c) (f : Nat → Int32) (r : Nat → Option Nat) :
    (ax_ws G rz (sh, I, R)).set i (rz i, ax_cell G rz c f r) = ax_ws G rz (sh, va_up I i f, va_up R i r) := by
  have hl := ax_nth_lt hc
  apply List.ext_getElem?
  intro j
  by_cases hj : j = i
  · subst hj
    rw [List.getElem?_set_self (by rw [ax_ws_len]; exact hl), ax_ws_get G rz (h := (sh, va_up I j f, va_up R j r)) hc]
    show some (rz j, ax_cell G rz c f r) = some (rz j, ax_cell G rz c (va_up I j f j) (va_up R j r j))
    rw [va_up_self, va_up_self]
  · rw [List.getElem?_set_ne (Ne.symm hj)]
    by_cases hjl : j < sh.length
    · rw [ax_ws_i G rz (sh, I, R) hjl, ax_ws_i G rz (sh, va_up I i f, va_up R i r) hjl]
      show some (rz j, ax_cell G rz _ (I j) (R j)) = some (rz j, ax_cell G rz _ (va_up I i f j) (va_up R i r j))
      rw [va_up_ne _ _ hj, va_up_ne _ _ hj]
    · rw [List.getElem?_eq_none (by rw [ax_ws_len]; exact Nat.le_of_not_lt hjl), List.getElem?_eq_none (by rw [ax_ws_len]; exact Nat.le_of_not_lt hjl)]
theorem ax_up_id {α : Type} (f : Nat → α) (i : Nat) : va_up f i (f i) = f := by
  funext j
  by_cases h : j = i
  · subst h; rw [va_up_self]
  · rw [va_up_ne _ _ h]
theorem ax_nth_app {α : Type} (l : List α) (c : α) {i : Nat} (h : i < l.length) : ax_nth (l ++ [c]) i = ax_nth l i := by
  rw [ax_nth_eq, ax_nth_eq, List.getElem?_append_left h]
theorem ax_nth_end {α : Type} (l : List α) (c : α) : ax_nth (l ++ [c]) l.length = some c := by
  rw [ax_nth_eq, List.getElem?_append_right (Nat.le_refl _), Nat.sub_self]; rfl
theorem ax_ws_push (G : ax_G) (rz : Nat → Nat) (sh : List (Nat × Nat)) (I : Nat → Nat → Int32) (R : Nat → Nat → Option Nat) (c : Nat × Nat) (f : Nat → Int32) (r : Nat → Option Nat) :
    ax_ws G rz (sh ++ [c], va_up I sh.length f, va_up R sh.length r) = ax_ws G rz (sh, I, R) ++ [(rz sh.length, ax_cell G rz c f r)] := by
  apply List.ext_getElem?
  intro j
  rcases Nat.lt_trichotomy j sh.length with hj | hj | hj
  · rw [List.getElem?_append_left (by rw [ax_ws_len]; exact hj), ax_ws_i G rz (sh, I, R) hj, ax_ws_i G rz (sh ++ [c], va_up I sh.length f, va_up R sh.length r) (by simp; omega)]
    show some (rz j, ax_cell G rz ((ax_nth (sh ++ [c]) j).getD (0, 0)) (va_up I sh.length f j) (va_up R sh.length r j)) = _
    rw [ax_nth_app sh c hj, va_up_ne _ _ (Nat.ne_of_lt hj), va_up_ne _ _ (Nat.ne_of_lt hj)]
  · subst hj
    rw [List.getElem?_append_right (by rw [ax_ws_len]; exact Nat.le_refl _), ax_ws_len, Nat.sub_self, ax_ws_get G rz (h := (sh ++ [c], va_up I sh.length f, va_up R sh.length r)) (ax_nth_end sh c)]
    show some (rz sh.length, ax_cell G rz c (va_up I sh.length f sh.length) (va_up R sh.length r sh.length)) = _
    rw [va_up_self, va_up_self]; rfl
  · rw [List.getElem?_eq_none (by rw [ax_ws_len]; simp; omega), List.getElem?_eq_none (by rw [List.length_append, ax_ws_len]; simp; omega)]
theorem ax_fs_at (rz : Nat → Nat) (ci : Nat) {N k : Nat} (hk : k < N) (f : Nat → Int32) (r : Nat → Option Nat) : (ax_fs rz ci N f r)[k]? = some (if ax_isr ci k = true then va_rf ((r k).map rz) else .int (f k)) := by
  simp [ax_fs, List.getElem?_map, hk]
theorem ax_fs_len (rz : Nat → Nat) (ci N : Nat) (f : Nat → Int32) (r : Nat → Option Nat) : (ax_fs rz ci N f r).length = N := by simp [ax_fs]
theorem ax_fs_i (rz : Nat → Nat) (ci N : Nat) {k : Nat} (h0 : ax_isr ci k = false) (f : Nat → Int32) (r : Nat → Option Nat) (x : Int32) : (ax_fs rz ci N f r).set k (.int x) = ax_fs rz ci N (upd f k x) r := by
  apply List.ext_getElem?
  intro j
  by_cases hj : j < N
  · by_cases e : j = k
    · subst e
      rw [List.getElem?_set_self (by rw [ax_fs_len]; exact hj), ax_fs_at rz ci hj, h0]
      simp [upd]
    · rw [List.getElem?_set_ne (Ne.symm e), ax_fs_at rz ci hj, ax_fs_at rz ci hj]
      simp [upd, e]
  · rw [List.getElem?_eq_none (by rw [List.length_set, ax_fs_len]; omega), List.getElem?_eq_none (by rw [ax_fs_len]; omega)]
theorem ax_fs_r (rz : Nat → Nat) (ci N : Nat) {k : Nat} (h0 : ax_isr ci k = true) (f : Nat → Int32) (r : Nat → Option Nat) (x : Nat) : (ax_fs rz ci N f r).set k (.ref (rz x)) = ax_fs rz ci N f (va_up r k (some x)) := by
  apply List.ext_getElem?
  intro j
  by_cases hj : j < N
  · by_cases e : j = k
    · subst e
      rw [List.getElem?_set_self (by rw [ax_fs_len]; exact hj), ax_fs_at rz ci hj, h0]
      simp [va_up, va_rf]
    · rw [List.getElem?_set_ne (Ne.symm e), ax_fs_at rz ci hj, ax_fs_at rz ci hj]
      simp [va_up, e]
  · rw [List.getElem?_eq_none (by rw [List.length_set, ax_fs_len]; omega), List.getElem?_eq_none (by rw [ax_fs_len]; omega)]
/-! locals -/
def ax_loc (z : ax_Z) (nL : Nat) (Ls : Array Slot) (ls : List Value) : Prop := ls.length = nL ∧ lv_has Ls nL [] ∧ ∀ (i : Nat) (v : Value), ls[i]? = some v → v ≠ .float 0 → Ls[i]? = some (.val (ax_rv z v))
def ax_lv (z : ax_Z) (ls : List Value) : List (Nat × Value) := (List.range ls.length).filterMap (fun i => match ls[i]? with
  | some v => if v = .float 0 then none else some (i, ax_rv z v)
  | none => none)
theorem ax_lv_mem {z : ax_Z} {ls : List Value} {i : Nat} {v : Value} (h : ls[i]? = some v) (hv : v ≠ .float 0) : (i, ax_rv z v) ∈ ax_lv z ls := by
  refine List.mem_filterMap.mpr ⟨i, List.mem_range.mpr (List.getElem?_eq_some_iff.mp h).1, ?_⟩
  simp [h, hv]
theorem ax_lv_has {z : ax_Z} {nL : Nat} {Ls : Array Slot} {ls : List Value} (h : ax_loc z nL Ls ls) : lv_has Ls nL (ax_lv z ls) := by
  refine ⟨h.2.1.1, h.2.1.2.1, fun q hq => ?_⟩
  obtain ⟨i, -, hi⟩ := List.mem_filterMap.mp hq
  cases hl : ls[i]? with
  | none => rw [hl] at hi; cases hi
  | some v =>
    rw [hl] at hi
    by_cases hv : v = .float 0
    · simp [hv] at hi
    · simp [hv] at hi
      rw [← hi]
      exact h.2.2 i v hl hv
theorem ax_loc_ld {z : ax_Z} {nL : Nat} {Ls : Array Slot} {ls : List Value} (h : ax_loc z nL Ls ls) {i : Nat} {v : Value} (hi : ax_nth ls i = some v) (hv : v ≠ .float 0) : Ls[i]? = some (.val (ax_rv z v)) := h.2.2 i v (by rw [← ax_nth_eq]; exact hi) hv
theorem ax_kill_len (ls : List Value) : ∀ i, (ax_kill ls i).length = ls.length
  | 0 => rfl
  | j + 1 => by
    cases hk : ax_nth ls j with
    | none => simp only [ax_kill, hk]
    | some v => by_cases h : v.category = 2 <;> simp [ax_kill, hk, h]
/-- what is left of the locals before a place is stored: what lies there lay there, and it isn't a long that the place cuts -/
theorem ax_kill_at (ls : List Value) (i : Nat) {j : Nat} {w : Value} (h : (ax_kill ls i)[j]? = some w) (hw : w ≠ .float 0) : ls[j]? = some w ∧ ¬ (j + 1 = i ∧ w.category = 2) := by
  cases i with
  | zero => exact ⟨h, fun q => by omega⟩
  | succ k =>
    cases hk : ax_nth ls k with
    | none =>
      simp only [ax_kill, hk] at h
      refine ⟨h, fun q => ?_⟩
      have e : j = k := by omega
      subst e
      rw [ax_nth_eq] at hk
      rw [hk] at h
      cases h
    | some v =>
      simp only [ax_kill, hk] at h
      by_cases hc : v.category = 2
      · simp only [hc, if_true] at h
        by_cases e : j = k
        · subst e
          have hl : j < ls.length := ax_nth_lt hk
          rw [List.getElem?_set_self hl] at h
          exact absurd (Option.some.inj h).symm hw
        · rw [List.getElem?_set_ne (Ne.symm e)] at h
          exact ⟨h, fun q => e (by omega)⟩
      · simp only [hc, if_false] at h
        refine ⟨h, fun q => ?_⟩
        have e : j = k := by omega
        subst e
        rw [ax_nth_eq] at hk
        rw [hk] at h
        cases h
        exact hc q.2
theorem ax_loc_st1 {z : ax_Z} {nL i : Nat} {Ls' : Array Slot} {ls : List Value} {v : Value} (hn : ls.length = nL) (h' : lv_has Ls' nL ((i, ax_rv z v) :: (ax_lv z ls).filter (fun q => !(q.1 == i) && !(q.1 + 1 == i && q.2.category == 2)))) : ax_loc z nL Ls' (ax_st1 ls i v) := by
  refine ⟨by rw [ax_st1, List.length_set, ax_kill_len]; exact hn, ⟨h'.1, h'.2.1, fun q hq => by cases hq⟩, fun j w hj hw => ?_⟩
  by_cases e : j = i
  · subst e
    have hl : j < (ax_kill ls j).length := by
      have := (List.getElem?_eq_some_iff.mp hj).1
      rw [ax_st1, List.length_set] at this
      exact this
    rw [ax_st1, List.getElem?_set_self hl] at hj
    cases hj
    exact h'.2.2 (j, ax_rv z v) List.mem_cons_self
  · rw [ax_st1, List.getElem?_set_ne (Ne.symm e)] at hj
    obtain ⟨h1, h2⟩ := ax_kill_at ls i hj hw
    refine h'.2.2 (j, ax_rv z w) (List.mem_cons_of_mem _ (List.mem_filter.mpr ⟨ax_lv_mem h1 hw, ?_⟩))
    have hb : ¬ (j + 1 = i ∧ (ax_rv z w).category = 2) := by rw [ax_rv_cat]; exact h2
    simp [e]
    by_cases h3 : j + 1 = i
    · exact Or.inr (fun h4 => hb ⟨h3, h4⟩)
    · exact Or.inl h3
theorem ax_loc_st2 {z : ax_Z} {nL i : Nat} {Ls' : Array Slot} {ls : List Value} {v : Value} (hn : ls.length = nL) (h' : lv_has Ls' nL ((i, ax_rv z v) :: (ax_lv z ls).filter (fun q => !(q.1 == i) && (!(q.1 == i + 1) && !(q.1 + 1 == i && q.2.category == 2))))) : ax_loc z nL Ls' (ax_st2 ls i v) := by
  refine ⟨by rw [ax_st2, List.length_set, List.length_set, ax_kill_len]; exact hn, ⟨h'.1, h'.2.1, fun q hq => by cases hq⟩, fun j w hj hw => ?_⟩
  by_cases e1 : j = i + 1
  · subst e1
    have hl : i + 1 < ((ax_kill ls i).set i v).length := by
      have := (List.getElem?_eq_some_iff.mp hj).1
      rw [ax_st2, List.length_set] at this
      exact this
    rw [ax_st2, List.getElem?_set_self hl] at hj
    exact absurd (Option.some.inj hj).symm hw
  · rw [ax_st2, List.getElem?_set_ne (Ne.symm e1)] at hj
    by_cases e : j = i
    · subst e
      have hl : j < (ax_kill ls j).length := by
        have := (List.getElem?_eq_some_iff.mp hj).1
        rw [List.length_set] at this
        exact this
      rw [List.getElem?_set_self hl] at hj
      cases hj
      exact h'.2.2 (j, ax_rv z v) List.mem_cons_self
    · rw [List.getElem?_set_ne (Ne.symm e)] at hj
      obtain ⟨h1, h2⟩ := ax_kill_at ls i hj hw
      refine h'.2.2 (j, ax_rv z w) (List.mem_cons_of_mem _ (List.mem_filter.mpr ⟨ax_lv_mem h1 hw, ?_⟩))
      have hb : ¬ (j + 1 = i ∧ (ax_rv z w).category = 2) := by rw [ax_rv_cat]; exact h2
      simp [e, e1]
      by_cases h3 : j + 1 = i
      · exact Or.inr (fun h4 => hb ⟨h3, h4⟩)
      · exact Or.inl h3
end
section
/-! SIMULATION: an abstract step is the machine's -/
abbrev ax_M : Type := MethodName × ByteArray × Nat × Option FieldType
def ax_tx : String := "p10,4,0,0;p16,2,1,0;p30,6,2,3;p33,3,3,1;w1,14,12;l0,8,6;l2,16,9;r5;r3;r8;r2;o6;o9;f2,4;f3,3;f1,6;"
def ax_tb : List Int32 := [112, 49, 48, 44, 52, 44, 48, 44, 48, 59, 112, 49, 54, 44, 50, 44, 49, 44, 48, 59, 112, 51, 48, 44, 54, 44, 50, 44, 51, 59, 112, 51, 51, 44, 51, 44, 51, 44, 49, 59, 119, 49, 44, 49, 52, 44, 49, 50, 59, 108, 48, 44, 56, 44, 54, 59, 108, 50, 44, 49, 54, 44, 57, 59, 114, 53, 59, 114, 51, 59, 114, 56, 59, 114, 50, 59, 111, 54, 59, 111, 57, 59, 102, 50, 44, 52, 59, 102, 51, 44, 51, 59, 102, 49, 44, 54, 59]
/-- what is said of the text constant and of the library's statics; nothing of it lies from base on -/
def ax_Y (base str : Nat) (U : State) : Prop := ∃ adV : Nat, vk_R "ShadowTailor" 68 ax_tx str U ∧ vk_S 1 [97] [ax_tb] (fun _ => str) (fun _ => adV) (fun q => base ≤ q) U U.heap ∧ va_Z "java/lang/String" "COMPACT_STRINGS" "Z" (.int 1) (fun q => base ≤ q) U U.heap ∧ va_Zq "jdk/internal/util/Preconditions" "SIOOBE_FORMATTER" "Ljava/util/function/BiFunction;" (fun q => base ≤ q) U U.heap
def ax_X (E : ax_E) (base : Nat) (z : ax_Z) (U : State) : Prop := va_X z.2.1 E.1 E.2 U U.heap ∧ z.2.1 < base ∧ base ≤ U.heap.size ∧ ax_Y base z.2.2 U
theorem ax_X.moved {E : ax_E} {base : Nat} {z : ax_Z} {s U : State} (hW : s.WarmedH U.vm) (hz : base ≤ U.heap.size) (hq : ∀ a : Nat, a < base → U.heap[a]? = s.heap[a]?) (h : ax_X E base z s) : ax_X E base z U := by
  obtain ⟨h1, h2, h3, adV, g1, g2, g3, g4⟩ := h
  have hk : ∀ a : Nat, a < s.heap.size → ¬ (base ≤ a) → U.heap[a]? = s.heap[a]? := fun a _ h => hq a (Nat.lt_of_not_le h)
  exact ⟨(h1.moved hW.alike).kept (hq _ h2), h2, hz, adV, g1.warm hW, (g2.moved hW.alike).kept hk, (g3.moved hW.alike).kept hk, (g4.moved hW.alike).kept hk⟩
theorem ax_kept_warm {w : Cond} (hk : ax_kept w = true) {s U : State} {A A' : Array Value} (hW : s.WarmedH U.vm) (h : w.before A s = true) : w.before A' U = true := by
  cases w with
  | fieldLinkNest a i b n d x => exact va_Nw.use rfl (va_Nw.warmF hW (va_Nw.of rfl h))
  | methodLinkNest a i b n => exact va_Nw.use rfl (va_Nw.warmM hW (va_Nw.of rfl h))
  | arrayOver t => cases t with
    | object n => exact va_AO.use (va_AO.moved hW.alike (va_AO.of h))
    | _ => cases hk
  | _ => exact word_at hW (good_of_word hk) h
def ax_N (U : State) : Prop := ∀ w ∈ ax_tbl, w.before #[] U = true
theorem ax_N.warm {s U : State} {A : Array Value} (hW : s.WarmedH U.vm) (h : ∀ w ∈ ax_tbl, w.before A s = true) : ∀ w ∈ ax_tbl, ∀ A' : Array Value, w.before A' U = true := fun w hw _ => ax_kept_warm (List.mem_filter.mp hw).2 hW (h w hw)
theorem ax_N.use {U : State} (h : ax_N U) (A : Array Value) : ∀ w ∈ ax_tbl, w.before A U = true := fun w hw => ax_N.warm (State.WarmedH.refl U) h w hw A
def ax_Fr (ini : Bool) (own : String) (cc : ByteArray) (nL : Nat) (ret : Option FieldType) (p : Program) (R : Room) (s : State) (m : MethodId) (args : Array Value) (meth : Method) (c : Code) (G : ax_G) (base : Nat) (z : ax_Z) (E : ax_E) : Prop :=
  p.tables.exec = Jvm.exec ∧ c.code = cc ∧ c.maxLocals = nL ∧ s.vm.findClass own = some m.cls ∧ (∀ w ∈ ax_tbl, w.before args s = true) ∧ va_K G.1 vwCl (ax_tys G) s ∧ (1 ≤ R.frames ∧ 64 ≤ R.locals) ∧ (ini = true → meth.name = "<init>") ∧ meth.sig.returnType = ret ∧ ax_X E base z s
def ax_Wt (nL : Nat) (p : Program) (l : Launch) (e : Env) (R : Room) (s : State) (m : MethodId) (args : Array Value) (below : List Frame) (meth : Method) (c : Code) (G : ax_G) (base : Nat) (z : ax_Z) (Q : State → Prop) (h0 : ax_H) (S : ax_S) : Prop :=
  ∀ (H : Heap) (locs : List Loc) (Ls : Array Slot) (cells slots : Nat), ax_ok G base z.1 S.2.2.2 H → ax_loc z nL Ls S.2.1 → va_S (fun q => base ≤ q) s.heap H locs → cells + h0.1.length = S.2.2.2.1.length → slots + ax_slt h0 = ax_slt S.2.2.2 → W p l e R s m args below meth c H locs cells slots Q (F0 m S.1 Ls (S.2.2.1.map (ax_rv z)))
def ax_rc (rt : Option FieldType) (cc : ByteArray) (pc : Nat) : Option Value → Prop
  | some (.int v) => decode cc pc = .ok (.ireturn, 1) ∧ ∃ ty, rt = some ty ∧ narrow ty (.int v) = .int v
  | some (.long _) => decode cc pc = .ok (.lreturn, 1) ∧ rt = some .long
  | some (.ref _) => decode cc pc = .ok (.areturn, 1) ∧ ∃ ty, rt = some ty ∧ ((∃ n, ty = .object n) ∨ ∃ t, ty = .array t)
  | none => decode cc pc = .ok (.return_, 1) ∧ rt = none
  | _ => False
def ax_Ho (cc : ByteArray) (ret : Option FieldType) (p : Program) (l : Launch) (e : Env) (R : Room) (s : State) (m : MethodId) (args : Array Value) (below : List Frame) (meth : Method) (c : Code) (G : ax_G) (base : Nat) (z : ax_Z) (Q : State → Prop) (h0 : ax_H) (r : Option Value) (h : ax_H) : Prop :=
  ∀ (pc : Nat) (H : Heap) (locs : List Loc) (Ls : Array Slot) (cells slots : Nat), ax_ok G base z.1 h H → va_S (fun q => base ≤ q) s.heap H locs → cells + h0.1.length = h.1.length → slots + ax_slt h0 = ax_slt h → ax_rc ret cc pc r → W p l e R s m args below meth c H locs cells slots Q (F0 m pc Ls (r.toList.map (ax_rv z)))
def ax_Pc (G : ax_G) (base : Nat) (z : ax_Z) (E : ax_E) (as : List Value) (h : ax_H) : Array Value → State → Prop := fun v U => v = (as.map (ax_rv z)).toArray ∧ ax_ok G base z.1 h U.heap ∧ va_K G.1 vwCl (ax_tys G) U ∧ ax_X E base z U ∧ ax_N U
def ax_Qc (G : ax_G) (base : Nat) (z : ax_Z) (r : Option Value) (h : ax_H) : Array Value → State → Outcome → State → Prop := fun _ st o t => o = .returned (r.map (ax_rv z)) ∧ ax_ok G base z.1 h t.heap ∧ va_F (fun q => base ≤ q) st t
def ax_wsm (mt : ax_M) : List Cond := [Cond.code mt.1 mt.2.1 mt.2.2.1 mt.2.2.2]
def ax_CalOk (ME : Nat → Option ax_M) (l : Launch) (R : Room) (E : ax_E) (cal : ax_Cal) : Prop := ∀ (y : Nat) (mt : ax_M), ME y = some mt → ∀ (as : List Value) (h : ax_H) (r : Option Value) (h' : ax_H), cal y as h = some (r, h') →
  (h.1.length ≤ h'.1.length ∧ ax_slt h ≤ ax_slt h') ∧ ∀ (G : ax_G) (base : Nat) (z : ax_Z), ∃ rm : Room, rm.cells = h'.1.length - h.1.length ∧ rm.slots = ax_slt h' - ax_slt h ∧ (rm.frames + 1 ≤ R.frames ∧ 8 + (mt.2.2.1 + 11) + rm.locals ≤ R.locals) ∧
    Met l mt.1 (ax_wsm mt) rm (ax_Pc G base z E as h) (ax_Qc G base z r h') (h'.1.length - h.1.length) (ax_slt h' - ax_slt h) (fun q => base ≤ q)
def ax_Mono (cal : ax_Cal) : Prop := ∀ (y : Nat) (as : List Value) (h : ax_H) (r : Option Value) (h' : ax_H), cal y as h = some (r, h') → h.1.length ≤ h'.1.length ∧ ax_slt h ≤ ax_slt h'
def ax_mo (h : ax_H) (o : ax_S ⊕ ax_R) : Prop := match o with
  | .inl S' => h.1.length ≤ S'.2.2.2.1.length ∧ ax_slt h ≤ ax_slt S'.2.2.2
  | .inr q => q.2 = h
def ax_Sim (ME : Nat → Option ax_M) (ini : Bool) (own : String) (cc : ByteArray) (nL : Nat) (ret : Option FieldType) (pc : Nat) (act : ax_Act) : Prop :=
  ∀ (E : ax_E) (cal : ax_Cal) (ls st : List Value) (h : ax_H) (o : ax_S ⊕ ax_R), act E cal (pc, ls, st, h) = some o → (ax_Mono cal → ax_mo h o) ∧
  ∀ (p : Program) (l : Launch) (e : Env) (R : Room) (s : State) (m : MethodId) (args : Array Value) (below : List Frame) (meth : Method) (c : Code) (G : ax_G) (base : Nat) (z : ax_Z) (Q : State → Prop) (h0 : ax_H),
    ax_Fr ini own cc nL ret p R s m args meth c G base z E → ax_CalOk ME l R E cal → match o with
    | .inl S' => S'.2.2.2.1.length ≤ h0.1.length + R.cells → ax_slt S'.2.2.2 ≤ ax_slt h0 + R.slots → h0.1.length ≤ h.1.length → ax_slt h0 ≤ ax_slt h → ax_Wt nL p l e R s m args below meth c G base z Q h0 S' → ax_Wt nL p l e R s m args below meth c G base z Q h0 (pc, ls, st, h)
    | .inr q => ax_Ho cc ret p l e R s m args below meth c G base z Q h0 q.1 h → ax_Wt nL p l e R s m args below meth c G base z Q h0 (pc, ls, st, h)
section SM
variable {ME : Nat → Option ax_M} {ini : Bool} {own : String} {cc : ByteArray} {nL : Nat} {ret : Option FieldType} {pc : Nat}
/-- a step that changes the stack alone -/
theorem sm_pure {act : ax_Act} (hA : ∀ (E : ax_E) (cal : ax_Cal) (ls st : List Value) (h : ax_H) (o : ax_S ⊕ ax_R), act E cal (pc, ls, st, h) = some o → ∃ (n : Nat) (st' : List Value), o = .inl (n, ls, st', h) ∧
    ∀ (p : Program) (l : Launch) (e : Env) (R : Room) (s : State) (m : MethodId) (args : Array Value) (below : List Frame) (meth : Method) (c : Code) (G : ax_G) (base : Nat) (z : ax_Z) (Q : State → Prop), ax_Fr ini own cc nL ret p R s m args meth c G base z E → ∀ (H : Heap) (locs : List Loc) (Ls : Array Slot) (cells slots : Nat), ax_ok G base z.1 h H → ax_loc z nL Ls ls → va_S (fun q => base ≤ q) s.heap H locs →
      W p l e R s m args below meth c H locs cells slots Q (F0 m n Ls (st'.map (ax_rv z))) → W p l e R s m args below meth c H locs cells slots Q (F0 m pc Ls (st.map (ax_rv z)))) : ax_Sim ME ini own cc nL ret pc act := by
  intro E cal ls st h o ho
  obtain ⟨n, st', rfl, k⟩ := hA E cal ls st h o ho
  exact ⟨fun _ => ⟨Nat.le_refl _, Nat.le_refl _⟩, fun p l e R s m args below meth c G base z Q h0 F hC _ _ _ _ w H locs Ls cells slots hk hl hS hc hs => k p l e R s m args below meth c G base z Q F H locs Ls cells slots hk hl hS (w H locs Ls cells slots hk hl hS hc hs)⟩

theorem sm_iconst {k : Int} {v : Int32} {n : Nat} (hd : decode cc pc = .ok (.iconst k, 1)) (hv : Int32.ofInt k = v) (hn : n = pc + 1) : ax_Sim ME ini own cc nL ret pc (a_iconst v n) := by
  subst hn
  refine sm_pure (fun E cal ls st h o ho => ?_)
  cases ho
  exact ⟨_, _, rfl, fun p l e R s m args below meth c G base z Q F H locs Ls cells slots hk hl hS w => lv_iconst F.1 F.2.1 hd hv w⟩
theorem sm_bipush {k : Int} {v : Int32} {n : Nat} (hd : decode cc pc = .ok (.bipush k, 2)) (hv : (Int8.ofInt k).toInt32 = v) (hn : n = pc + 2) : ax_Sim ME ini own cc nL ret pc (a_iconst v n) := by
  subst hn
  refine sm_pure (fun E cal ls st h o ho => ?_)
  cases ho
  exact ⟨_, _, rfl, fun p l e R s m args below meth c G base z Q F H locs Ls cells slots hk hl hS w => lv_bipush F.1 F.2.1 hd hv w⟩
theorem sm_sipush {k : Int} {v : Int32} {n : Nat} (hd : decode cc pc = .ok (.sipush k, 3)) (hv : (Int16.ofInt k).toInt32 = v) (hn : n = pc + 3) : ax_Sim ME ini own cc nL ret pc (a_iconst v n) := by
  subst hn
  refine sm_pure (fun E cal ls st h o ho => ?_)
  cases ho
  exact ⟨_, _, rfl, fun p l e R s m args below meth c G base z Q F H locs Ls cells slots hk hl hS w => lv_sipush F.1 F.2.1 hd hv w⟩
theorem sm_lconst {k : Fin 2} {v : Int64} {n : Nat} (hd : decode cc pc = .ok (.lconst k, 1)) (hv : Int64.ofNat (k : Nat) = v) (hn : n = pc + 1) : ax_Sim ME ini own cc nL ret pc (a_lconst v n) := by
  subst hn
  refine sm_pure (fun E cal ls st h o ho => ?_)
  cases ho
  exact ⟨_, _, rfl, fun p l e R s m args below meth c G base z Q F H locs Ls cells slots hk hl hS w => lv_lconst F.1 F.2.1 hd hv w⟩
theorem sm_ldc2 {k : Nat} {v : Int64} {n : Nat} (hd : decode cc pc = .ok (.ldc2_w k, 3)) (hw : Cond.constantLong own k v ∈ ax_tbl) (hn : n = pc + 3) : ax_Sim ME ini own cc nL ret pc (a_lconst v n) := by
  subst hn
  refine sm_pure (fun E cal ls st h o ho => ?_)
  cases ho
  exact ⟨_, _, rfl, fun p l e R s m args below meth c G base z Q F H locs Ls cells slots hk hl hS w => lv_ldc2 F.1 F.2.1 F.2.2.2.1 (F.2.2.2.2.1 _ hw) hd w⟩
theorem sm_ldcw {k : Nat} {v : Int32} {n : Nat} (hd : decode cc pc = .ok (.ldc_w k, 3)) (hw : Cond.constant own k v ∈ ax_tbl) (hn : n = pc + 3) : ax_Sim ME ini own cc nL ret pc (a_iconst v n) := by
  subst hn
  refine sm_pure (fun E cal ls st h o ho => ?_)
  cases ho
  exact ⟨_, _, rfl, fun p l e R s m args below meth c G base z Q F H locs Ls cells slots hk hl hS w => lv_ldcw F.1 F.2.1 F.2.2.2.1 (F.2.2.2.2.1 _ hw) hd w⟩
theorem sm_ldcs {n : Nat} (hd : decode cc pc = .ok (.ldc 68, 2)) (ho : own = "ShadowTailor") (hn : n = pc + 2) : ax_Sim ME ini own cc nL ret pc (a_ldcs n) := by
  subst hn
  subst ho
  refine sm_pure (fun E cal ls st h o ho => ?_)
  cases ho
  exact ⟨_, _, rfl, fun p l e R s m args below meth c G base z Q F H locs Ls cells slots hk hl hS w => by
    obtain ⟨adV, g1, -⟩ := F.2.2.2.2.2.2.2.2.2.2.2.2
    exact va_ldcS F.1 F.2.1 F.2.2.2.1 g1 hd w⟩
theorem sm_iload {i n : Nat} (hd : decode cc pc = .ok (.iload i, 2)) (hn : n = pc + 2) : ax_Sim ME ini own cc nL ret pc (a_iload i n) := by
  subst hn
  refine sm_pure (fun E cal ls st h o ho => ?_)
  simp only [a_iload] at ho
  split at ho
  · rename_i x hx
    cases ho
    exact ⟨_, _, rfl, fun p l e R s m args below meth c G base z Q F H locs Ls cells slots hk hl hS w => lv_iload F.1 F.2.1 hd (ax_loc_ld hl hx (by simp)) w⟩
  · cases ho
theorem sm_iload_n {i n : Nat} {k : Fin 4} (hd : decode cc pc = .ok (.iload_n k, 1)) (hi : (k : Nat) = i) (hn : n = pc + 1) : ax_Sim ME ini own cc nL ret pc (a_iload i n) := by
  subst hn
  refine sm_pure (fun E cal ls st h o ho => ?_)
  simp only [a_iload] at ho
  split at ho
  · rename_i x hx
    cases ho
    exact ⟨_, _, rfl, fun p l e R s m args below meth c G base z Q F H locs Ls cells slots hk hl hS w => lv_iload_n F.1 F.2.1 hd hi (ax_loc_ld hl hx (by simp)) w⟩
  · cases ho
theorem sm_lload {i n : Nat} (hd : decode cc pc = .ok (.lload i, 2)) (hn : n = pc + 2) : ax_Sim ME ini own cc nL ret pc (a_lload i n) := by
  subst hn
  refine sm_pure (fun E cal ls st h o ho => ?_)
  simp only [a_lload] at ho
  split at ho
  · rename_i x hx
    cases ho
    exact ⟨_, _, rfl, fun p l e R s m args below meth c G base z Q F H locs Ls cells slots hk hl hS w => lv_lload F.1 F.2.1 hd (ax_loc_ld hl hx (by simp)) w⟩
  · cases ho
theorem sm_lload_n {i n : Nat} {k : Fin 4} (hd : decode cc pc = .ok (.lload_n k, 1)) (hi : (k : Nat) = i) (hn : n = pc + 1) : ax_Sim ME ini own cc nL ret pc (a_lload i n) := by
  subst hn
  refine sm_pure (fun E cal ls st h o ho => ?_)
  simp only [a_lload] at ho
  split at ho
  · rename_i x hx
    cases ho
    exact ⟨_, _, rfl, fun p l e R s m args below meth c G base z Q F H locs Ls cells slots hk hl hS w => lv_lload_n F.1 F.2.1 hd hi (ax_loc_ld hl hx (by simp)) w⟩
  · cases ho
theorem sm_aload {i n : Nat} (hd : decode cc pc = .ok (.aload i, 2)) (hn : n = pc + 2) : ax_Sim ME ini own cc nL ret pc (a_aload i n) := by
  subst hn
  refine sm_pure (fun E cal ls st h o ho => ?_)
  simp only [a_aload] at ho
  split at ho
  · rename_i x hx
    cases ho
    exact ⟨_, _, rfl, fun p l e R s m args below meth c G base z Q F H locs Ls cells slots hk hl hS w => lv_aload F.1 F.2.1 hd (ax_loc_ld hl hx (by simp)) w⟩
  · rename_i x hx
    cases ho
    exact ⟨_, _, rfl, fun p l e R s m args below meth c G base z Q F H locs Ls cells slots hk hl hS w => lv_aload F.1 F.2.1 hd (ax_loc_ld hl hx (by simp)) w⟩
  · cases ho
theorem sm_aload_n {i n : Nat} {k : Fin 4} (hd : decode cc pc = .ok (.aload_n k, 1)) (hi : (k : Nat) = i) (hn : n = pc + 1) : ax_Sim ME ini own cc nL ret pc (a_aload i n) := by
  subst hn
  refine sm_pure (fun E cal ls st h o ho => ?_)
  simp only [a_aload] at ho
  split at ho
  · rename_i x hx
    cases ho
    exact ⟨_, _, rfl, fun p l e R s m args below meth c G base z Q F H locs Ls cells slots hk hl hS w => lv_aload_n F.1 F.2.1 hd hi (ax_loc_ld hl hx (by simp)) w⟩
  · rename_i x hx
    cases ho
    exact ⟨_, _, rfl, fun p l e R s m args below meth c G base z Q F H locs Ls cells slots hk hl hS w => lv_aload_n F.1 F.2.1 hd hi (ax_loc_ld hl hx (by simp)) w⟩
  · cases ho
theorem sm_istore {i n : Nat} (hd : decode cc pc = .ok (.istore i, 2)) (hL : i < nL) (hn : n = pc + 2) : ax_Sim ME ini own cc nL ret pc (a_istore i n) := by
  subst hn
  intro E cal ls st h o ho
  simp only [a_istore] at ho
  split at ho
  · rename_i x st1 h1 he
    cases he
    cases ho
    exact ⟨fun _ => ⟨Nat.le_refl _, Nat.le_refl _⟩, fun p l e R s m args below meth c G base z Q h0 F hC _ _ _ _ w H locs Ls cells slots hk hl hS hc hs => lv_istore F.1 F.2.1 hd (ax_lv_has hl) hL rfl (fun Ls' hl' => w H locs Ls' cells slots hk (ax_loc_st1 hl.1 hl') hS hc hs)⟩
  · cases ho
theorem sm_istore_n {i n : Nat} {k : Fin 4} (hd : decode cc pc = .ok (.istore_n k, 1)) (hi : (k : Nat) = i) (hL : i < nL) (hn : n = pc + 1) : ax_Sim ME ini own cc nL ret pc (a_istore i n) := by
  subst hn
  intro E cal ls st h o ho
  simp only [a_istore] at ho
  split at ho
  · rename_i x st1 h1 he
    cases he
    cases ho
    exact ⟨fun _ => ⟨Nat.le_refl _, Nat.le_refl _⟩, fun p l e R s m args below meth c G base z Q h0 F hC _ _ _ _ w H locs Ls cells slots hk hl hS hc hs => lv_istore_n F.1 F.2.1 hd hi (ax_lv_has hl) hL rfl (fun Ls' hl' => w H locs Ls' cells slots hk (ax_loc_st1 hl.1 hl') hS hc hs)⟩
  · cases ho
theorem sm_astore {i n : Nat} (hd : decode cc pc = .ok (.astore i, 2)) (hL : i < nL) (hn : n = pc + 2) : ax_Sim ME ini own cc nL ret pc (a_astore i n) := by
  subst hn
  intro E cal ls st h o ho
  simp only [a_astore] at ho
  split at ho
  · rename_i x st1 h1 he
    cases he
    cases ho
    exact ⟨fun _ => ⟨Nat.le_refl _, Nat.le_refl _⟩, fun p l e R s m args below meth c G base z Q h0 F hC _ _ _ _ w H locs Ls cells slots hk hl hS hc hs => lv_astore F.1 F.2.1 hd (ax_lv_has hl) hL rfl (fun Ls' hl' => w H locs Ls' cells slots hk (ax_loc_st1 hl.1 hl') hS hc hs)⟩
  · cases ho
theorem sm_astore_n {i n : Nat} {k : Fin 4} (hd : decode cc pc = .ok (.astore_n k, 1)) (hi : (k : Nat) = i) (hL : i < nL) (hn : n = pc + 1) : ax_Sim ME ini own cc nL ret pc (a_astore i n) := by
  subst hn
  intro E cal ls st h o ho
  simp only [a_astore] at ho
  split at ho
  · rename_i x st1 h1 he
    cases he
    cases ho
    exact ⟨fun _ => ⟨Nat.le_refl _, Nat.le_refl _⟩, fun p l e R s m args below meth c G base z Q h0 F hC _ _ _ _ w H locs Ls cells slots hk hl hS hc hs => lv_astore_n F.1 F.2.1 hd hi (ax_lv_has hl) hL rfl (fun Ls' hl' => w H locs Ls' cells slots hk (ax_loc_st1 hl.1 hl') hS hc hs)⟩
  · cases ho
theorem sm_lstore {i n : Nat} (hd : decode cc pc = .ok (.lstore i, 2)) (hL : i + 1 < nL) (hn : n = pc + 2) : ax_Sim ME ini own cc nL ret pc (a_lstore i n) := by
  subst hn
  intro E cal ls st h o ho
  simp only [a_lstore] at ho
  split at ho
  · rename_i x st1 h1 he
    cases he
    cases ho
    exact ⟨fun _ => ⟨Nat.le_refl _, Nat.le_refl _⟩, fun p l e R s m args below meth c G base z Q h0 F hC _ _ _ _ w H locs Ls cells slots hk hl hS hc hs => lv_lstore F.1 F.2.1 hd (ax_lv_has hl) hL rfl (fun Ls' hl' => w H locs Ls' cells slots hk (ax_loc_st2 hl.1 hl') hS hc hs)⟩
  · cases ho
theorem sm_lstore_n {i n : Nat} {k : Fin 4} (hd : decode cc pc = .ok (.lstore_n k, 1)) (hi : (k : Nat) = i) (hL : i + 1 < nL) (hn : n = pc + 1) : ax_Sim ME ini own cc nL ret pc (a_lstore i n) := by
  subst hn
  intro E cal ls st h o ho
  simp only [a_lstore] at ho
  split at ho
  · rename_i x st1 h1 he
    cases he
    cases ho
    exact ⟨fun _ => ⟨Nat.le_refl _, Nat.le_refl _⟩, fun p l e R s m args below meth c G base z Q h0 F hC _ _ _ _ w H locs Ls cells slots hk hl hS hc hs => lv_lstore_n F.1 F.2.1 hd hi (ax_lv_has hl) hL rfl (fun Ls' hl' => w H locs Ls' cells slots hk (ax_loc_st2 hl.1 hl') hS hc hs)⟩
  · cases ho
theorem sm_iinc {i n : Nat} {k : Int} {v : Int32} (hd : decode cc pc = .ok (.iinc i k, 3)) (hv : Int32.ofInt k = v) (hL : i < nL) (hn : n = pc + 3) : ax_Sim ME ini own cc nL ret pc (a_iinc i v n) := by
  subst hn
  subst hv
  intro E cal ls st h o ho
  simp only [a_iinc] at ho
  split at ho
  · rename_i x hx
    cases ho
    refine ⟨fun _ => ⟨Nat.le_refl _, Nat.le_refl _⟩, fun p l e R s m args below meth c G base z Q h0 F hC _ _ _ _ w H locs Ls cells slots hk hl hS hc hs => ?_⟩
    rw [ax_nth_eq] at hx
    obtain ⟨k9, h9⟩ := List.getElem?_of_mem (ax_lv_mem (z := z) hx (by simp))
    exact lv_iinc F.1 F.2.1 hd (ax_lv_has hl) h9 rfl hL rfl (fun Ls' hl' => w H locs Ls' cells slots hk (ax_loc_st1 (v := .int (x + Int32.ofInt k)) hl.1 hl') hS hc hs)
  · cases ho
theorem sm_dup {n : Nat} (hd : decode cc pc = .ok (.dup, 1)) (hn : n = pc + 1) : ax_Sim ME ini own cc nL ret pc (a_dup n) := by
  subst hn
  refine sm_pure (fun E cal ls st h o ho => ?_)
  simp only [a_dup] at ho
  split at ho
  · rename_i v st1 h1 he
    cases he
    split at ho
    · rename_i hc
      cases ho
      exact ⟨_, _, rfl, fun p l e R s m args below meth c G base z Q F H locs Ls cells slots hk hl hS w => lv_dup F.1 F.2.1 hd (by rw [ax_rv_cat]; exact hc) w⟩
    · cases ho
  · cases ho
theorem sm_pop {n : Nat} (hd : decode cc pc = .ok (.pop, 1)) (hn : n = pc + 1) : ax_Sim ME ini own cc nL ret pc (a_pop n) := by
  subst hn
  refine sm_pure (fun E cal ls st h o ho => ?_)
  simp only [a_pop] at ho
  split at ho
  · rename_i v st1 h1 he
    cases he
    split at ho
    · rename_i hc
      cases ho
      exact ⟨_, _, rfl, fun p l e R s m args below meth c G base z Q F H locs Ls cells slots hk hl hS w => lv_pop F.1 F.2.1 hd (by rw [ax_rv_cat]; exact hc) w⟩
    · cases ho
  · cases ho
theorem sm_dup2 {n : Nat} (hd : decode cc pc = .ok (.dup2, 1)) (hn : n = pc + 1) : ax_Sim ME ini own cc nL ret pc (a_dup2 n) := by
  subst hn
  refine sm_pure (fun E cal ls st h o ho => ?_)
  simp only [a_dup2] at ho
  split at ho
  · rename_i v w9 st1 h1 he
    cases he
    split at ho
    · rename_i hc
      cases ho
      exact ⟨_, _, rfl, fun p l e R s m args below meth c G base z Q F H locs Ls cells slots hk hl hS w => lv_dup2_11 F.1 F.2.1 hd (by rw [ax_rv_cat]; exact hc.1) (by rw [ax_rv_cat]; exact hc.2) w⟩
    · cases ho
  · cases ho
theorem sm_iadd {n : Nat} (hd : decode cc pc = .ok (.iadd, 1)) (hn : n = pc + 1) : ax_Sim ME ini own cc nL ret pc (a_iadd n) := by
  subst hn
  refine sm_pure (fun E cal ls st h o ho => ?_)
  simp only [a_iadd] at ho
  split at ho
  · rename_i y x st1 h1 he
    cases he
    cases ho
    exact ⟨_, _, rfl, fun p l e R s m args below meth c G base z Q F H locs Ls cells slots hk hl hS w => lv_iadd F.1 F.2.1 hd w⟩
  · cases ho
theorem sm_isub {n : Nat} (hd : decode cc pc = .ok (.isub, 1)) (hn : n = pc + 1) : ax_Sim ME ini own cc nL ret pc (a_isub n) := by
  subst hn
  refine sm_pure (fun E cal ls st h o ho => ?_)
  simp only [a_isub] at ho
  split at ho
  · rename_i y x st1 h1 he
    cases he
    cases ho
    exact ⟨_, _, rfl, fun p l e R s m args below meth c G base z Q F H locs Ls cells slots hk hl hS w => lv_isub F.1 F.2.1 hd w⟩
  · cases ho
theorem sm_imul {n : Nat} (hd : decode cc pc = .ok (.imul, 1)) (hn : n = pc + 1) : ax_Sim ME ini own cc nL ret pc (a_imul n) := by
  subst hn
  refine sm_pure (fun E cal ls st h o ho => ?_)
  simp only [a_imul] at ho
  split at ho
  · rename_i y x st1 h1 he
    cases he
    cases ho
    exact ⟨_, _, rfl, fun p l e R s m args below meth c G base z Q F H locs Ls cells slots hk hl hS w => lv_imul F.1 F.2.1 hd w⟩
  · cases ho
theorem sm_iand {n : Nat} (hd : decode cc pc = .ok (.iand, 1)) (hn : n = pc + 1) : ax_Sim ME ini own cc nL ret pc (a_iand n) := by
  subst hn
  refine sm_pure (fun E cal ls st h o ho => ?_)
  simp only [a_iand] at ho
  split at ho
  · rename_i y x st1 h1 he
    cases he
    cases ho
    exact ⟨_, _, rfl, fun p l e R s m args below meth c G base z Q F H locs Ls cells slots hk hl hS w => lv_iand F.1 F.2.1 hd w⟩
  · cases ho
theorem sm_ior {n : Nat} (hd : decode cc pc = .ok (.ior, 1)) (hn : n = pc + 1) : ax_Sim ME ini own cc nL ret pc (a_ior n) := by
  subst hn
  refine sm_pure (fun E cal ls st h o ho => ?_)
  simp only [a_ior] at ho
  split at ho
  · rename_i y x st1 h1 he
    cases he
    cases ho
    exact ⟨_, _, rfl, fun p l e R s m args below meth c G base z Q F H locs Ls cells slots hk hl hS w => lv_ior F.1 F.2.1 hd w⟩
  · cases ho
theorem sm_ixor {n : Nat} (hd : decode cc pc = .ok (.ixor, 1)) (hn : n = pc + 1) : ax_Sim ME ini own cc nL ret pc (a_ixor n) := by
  subst hn
  refine sm_pure (fun E cal ls st h o ho => ?_)
  simp only [a_ixor] at ho
  split at ho
  · rename_i y x st1 h1 he
    cases he
    cases ho
    exact ⟨_, _, rfl, fun p l e R s m args below meth c G base z Q F H locs Ls cells slots hk hl hS w => lv_ixor F.1 F.2.1 hd w⟩
  · cases ho
theorem sm_ishl {n : Nat} (hd : decode cc pc = .ok (.ishl, 1)) (hn : n = pc + 1) : ax_Sim ME ini own cc nL ret pc (a_ishl n) := by
  subst hn
  refine sm_pure (fun E cal ls st h o ho => ?_)
  simp only [a_ishl] at ho
  split at ho
  · rename_i y x st1 h1 he
    cases he
    cases ho
    exact ⟨_, _, rfl, fun p l e R s m args below meth c G base z Q F H locs Ls cells slots hk hl hS w => lv_ishl F.1 F.2.1 hd w⟩
  · cases ho
theorem sm_ishr {n : Nat} (hd : decode cc pc = .ok (.ishr, 1)) (hn : n = pc + 1) : ax_Sim ME ini own cc nL ret pc (a_ishr n) := by
  subst hn
  refine sm_pure (fun E cal ls st h o ho => ?_)
  simp only [a_ishr] at ho
  split at ho
  · rename_i y x st1 h1 he
    cases he
    cases ho
    exact ⟨_, _, rfl, fun p l e R s m args below meth c G base z Q F H locs Ls cells slots hk hl hS w => lv_ishr F.1 F.2.1 hd w⟩
  · cases ho
theorem sm_ladd {n : Nat} (hd : decode cc pc = .ok (.ladd, 1)) (hn : n = pc + 1) : ax_Sim ME ini own cc nL ret pc (a_ladd n) := by
  subst hn
  refine sm_pure (fun E cal ls st h o ho => ?_)
  simp only [a_ladd] at ho
  split at ho
  · rename_i y x st1 h1 he
    cases he
    cases ho
    exact ⟨_, _, rfl, fun p l e R s m args below meth c G base z Q F H locs Ls cells slots hk hl hS w => lv_ladd F.1 F.2.1 hd w⟩
  · cases ho
theorem sm_lmul {n : Nat} (hd : decode cc pc = .ok (.lmul, 1)) (hn : n = pc + 1) : ax_Sim ME ini own cc nL ret pc (a_lmul n) := by
  subst hn
  refine sm_pure (fun E cal ls st h o ho => ?_)
  simp only [a_lmul] at ho
  split at ho
  · rename_i y x st1 h1 he
    cases he
    cases ho
    exact ⟨_, _, rfl, fun p l e R s m args below meth c G base z Q F H locs Ls cells slots hk hl hS w => lv_lmul F.1 F.2.1 hd w⟩
  · cases ho
theorem sm_lcmp {n : Nat} (hd : decode cc pc = .ok (.lcmp, 1)) (hn : n = pc + 1) : ax_Sim ME ini own cc nL ret pc (a_lcmp n) := by
  subst hn
  refine sm_pure (fun E cal ls st h o ho => ?_)
  simp only [a_lcmp] at ho
  split at ho
  · rename_i y x st1 h1 he
    cases he
    cases ho
    exact ⟨_, _, rfl, fun p l e R s m args below meth c G base z Q F H locs Ls cells slots hk hl hS w => W.lcmp F.1 F.2.1 hd w⟩
  · cases ho
theorem sm_iushr {n : Nat} (hd : decode cc pc = .ok (.iushr, 1)) (hn : n = pc + 1) : ax_Sim ME ini own cc nL ret pc (a_iushr n) := by
  subst hn
  refine sm_pure (fun E cal ls st h o ho => ?_)
  simp only [a_iushr] at ho
  split at ho
  · rename_i y x st1 h1 he
    cases he
    cases ho
    exact ⟨_, _, rfl, fun p l e R s m args below meth c G base z Q F H locs Ls cells slots hk hl hS w => lv_iushr F.1 F.2.1 hd rfl w⟩
  · cases ho
theorem sm_idiv {n : Nat} (hd : decode cc pc = .ok (.idiv, 1)) (hn : n = pc + 1) : ax_Sim ME ini own cc nL ret pc (a_idiv n) := by
  subst hn
  refine sm_pure (fun E cal ls st h o ho => ?_)
  simp only [a_idiv] at ho
  split at ho
  · rename_i y x st1 h1 he
    cases he
    split at ho
    · cases ho
    · rename_i hne
      cases ho
      exact ⟨_, _, rfl, fun p l e R s m args below meth c G base z Q F H locs Ls cells slots hk hl hS w => lv_idiv F.1 F.2.1 hd hne w⟩
  · cases ho
theorem sm_irem {n : Nat} (hd : decode cc pc = .ok (.irem, 1)) (hn : n = pc + 1) : ax_Sim ME ini own cc nL ret pc (a_irem n) := by
  subst hn
  refine sm_pure (fun E cal ls st h o ho => ?_)
  simp only [a_irem] at ho
  split at ho
  · rename_i y x st1 h1 he
    cases he
    split at ho
    · cases ho
    · rename_i hne
      cases ho
      exact ⟨_, _, rfl, fun p l e R s m args below meth c G base z Q F H locs Ls cells slots hk hl hS w => lv_irem F.1 F.2.1 hd hne w⟩
  · cases ho
theorem sm_ldiv {n : Nat} (hd : decode cc pc = .ok (.ldiv, 1)) (hn : n = pc + 1) : ax_Sim ME ini own cc nL ret pc (a_ldiv n) := by
  subst hn
  refine sm_pure (fun E cal ls st h o ho => ?_)
  simp only [a_ldiv] at ho
  split at ho
  · rename_i y x st1 h1 he
    cases he
    split at ho
    · cases ho
    · rename_i hne
      cases ho
      exact ⟨_, _, rfl, fun p l e R s m args below meth c G base z Q F H locs Ls cells slots hk hl hS w => lv_ldiv F.1 F.2.1 hd hne w⟩
  · cases ho
theorem sm_lrem {n : Nat} (hd : decode cc pc = .ok (.lrem, 1)) (hn : n = pc + 1) : ax_Sim ME ini own cc nL ret pc (a_lrem n) := by
  subst hn
  refine sm_pure (fun E cal ls st h o ho => ?_)
  simp only [a_lrem] at ho
  split at ho
  · rename_i y x st1 h1 he
    cases he
    split at ho
    · cases ho
    · rename_i hne
      cases ho
      exact ⟨_, _, rfl, fun p l e R s m args below meth c G base z Q F H locs Ls cells slots hk hl hS w => lv_lrem F.1 F.2.1 hd hne w⟩
  · cases ho
theorem sm_ineg {n : Nat} (hd : decode cc pc = .ok (.ineg, 1)) (hn : n = pc + 1) : ax_Sim ME ini own cc nL ret pc (a_ineg n) := by
  subst hn
  refine sm_pure (fun E cal ls st h o ho => ?_)
  simp only [a_ineg] at ho
  split at ho
  · rename_i x st1 h1 he
    cases he
    cases ho
    exact ⟨_, _, rfl, fun p l e R s m args below meth c G base z Q F H locs Ls cells slots hk hl hS w => lv_ineg F.1 F.2.1 hd w⟩
  · cases ho
theorem sm_i2l {n : Nat} (hd : decode cc pc = .ok (.i2l, 1)) (hn : n = pc + 1) : ax_Sim ME ini own cc nL ret pc (a_i2l n) := by
  subst hn
  refine sm_pure (fun E cal ls st h o ho => ?_)
  simp only [a_i2l] at ho
  split at ho
  · rename_i x st1 h1 he
    cases he
    cases ho
    exact ⟨_, _, rfl, fun p l e R s m args below meth c G base z Q F H locs Ls cells slots hk hl hS w => lv_i2l F.1 F.2.1 hd rfl w⟩
  · cases ho
theorem sm_l2i {n : Nat} (hd : decode cc pc = .ok (.l2i, 1)) (hn : n = pc + 1) : ax_Sim ME ini own cc nL ret pc (a_l2i n) := by
  subst hn
  refine sm_pure (fun E cal ls st h o ho => ?_)
  simp only [a_l2i] at ho
  split at ho
  · rename_i x st1 h1 he
    cases he
    cases ho
    exact ⟨_, _, rfl, fun p l e R s m args below meth c G base z Q F H locs Ls cells slots hk hl hS w => lv_l2i F.1 F.2.1 hd rfl w⟩
  · cases ho
theorem sm_i2c {n : Nat} (hd : decode cc pc = .ok (.i2c, 1)) (hn : n = pc + 1) : ax_Sim ME ini own cc nL ret pc (a_i2c n) := by
  subst hn
  refine sm_pure (fun E cal ls st h o ho => ?_)
  simp only [a_i2c] at ho
  split at ho
  · rename_i x st1 h1 he
    cases he
    cases ho
    exact ⟨_, _, rfl, fun p l e R s m args below meth c G base z Q F H locs Ls cells slots hk hl hS w => lv_i2c F.1 F.2.1 hd rfl w⟩
  · cases ho
theorem sm_goto {t : Nat} {off : Int} (hd : decode cc pc = .ok (.goto off, 3)) (ht : (pc : Int) + off = (t : Int)) : ax_Sim ME ini own cc nL ret pc (a_goto t) := by
  refine sm_pure (fun E cal ls st h o ho => ?_)
  cases ho
  exact ⟨_, _, rfl, fun p l e R s m args below meth c G base z Q F H locs Ls cells slots hk hl hS w => lv_goto F.1 F.2.1 hd ht w⟩
theorem sm_ceq {t n : Nat} {off : Int} (hd : decode cc pc = .ok (.if_icmp .eq off, 3)) (ht : (pc : Int) + off = (t : Int)) (hn : n = pc + 3) : ax_Sim ME ini own cc nL ret pc (a_ceq t n) := by
  subst hn
  refine sm_pure (fun E cal ls st h o ho => ?_)
  simp only [a_ceq] at ho
  split at ho
  · rename_i y x st1 h1 he
    cases he
    split at ho
    · rename_i hc
      cases ho
      exact ⟨_, _, rfl, fun p l e R s m args below meth c G base z Q F H locs Ls cells slots hk hl hS w => lv_icmp_eq F.1 F.2.1 hd ht (fun _ => w) (fun q => absurd hc q)⟩
    · rename_i hc
      cases ho
      exact ⟨_, _, rfl, fun p l e R s m args below meth c G base z Q F H locs Ls cells slots hk hl hS w => lv_icmp_eq F.1 F.2.1 hd ht (fun q => absurd q hc) (fun _ => w)⟩
  · cases ho
theorem sm_zeq {t n : Nat} {off : Int} (hd : decode cc pc = .ok (.ifCond .eq off, 3)) (ht : (pc : Int) + off = (t : Int)) (hn : n = pc + 3) : ax_Sim ME ini own cc nL ret pc (a_zeq t n) := by
  subst hn
  refine sm_pure (fun E cal ls st h o ho => ?_)
  simp only [a_zeq] at ho
  split at ho
  · rename_i x st1 h1 he
    cases he
    split at ho
    · rename_i hc
      cases ho
      exact ⟨_, _, rfl, fun p l e R s m args below meth c G base z Q F H locs Ls cells slots hk hl hS w => lv_if_eq F.1 F.2.1 hd ht (fun _ => w) (fun q => absurd hc q)⟩
    · rename_i hc
      cases ho
      exact ⟨_, _, rfl, fun p l e R s m args below meth c G base z Q F H locs Ls cells slots hk hl hS w => lv_if_eq F.1 F.2.1 hd ht (fun q => absurd q hc) (fun _ => w)⟩
  · cases ho
theorem sm_cne {t n : Nat} {off : Int} (hd : decode cc pc = .ok (.if_icmp .ne off, 3)) (ht : (pc : Int) + off = (t : Int)) (hn : n = pc + 3) : ax_Sim ME ini own cc nL ret pc (a_cne t n) := by
  subst hn
  refine sm_pure (fun E cal ls st h o ho => ?_)
  simp only [a_cne] at ho
  split at ho
  · rename_i y x st1 h1 he
    cases he
    split at ho
    · rename_i hc
      cases ho
      exact ⟨_, _, rfl, fun p l e R s m args below meth c G base z Q F H locs Ls cells slots hk hl hS w => lv_icmp_ne F.1 F.2.1 hd ht (fun q => absurd hc q) (fun _ => w)⟩
    · rename_i hc
      cases ho
      exact ⟨_, _, rfl, fun p l e R s m args below meth c G base z Q F H locs Ls cells slots hk hl hS w => lv_icmp_ne F.1 F.2.1 hd ht (fun _ => w) (fun q => absurd q hc)⟩
  · cases ho
theorem sm_zne {t n : Nat} {off : Int} (hd : decode cc pc = .ok (.ifCond .ne off, 3)) (ht : (pc : Int) + off = (t : Int)) (hn : n = pc + 3) : ax_Sim ME ini own cc nL ret pc (a_zne t n) := by
  subst hn
  refine sm_pure (fun E cal ls st h o ho => ?_)
  simp only [a_zne] at ho
  split at ho
  · rename_i x st1 h1 he
    cases he
    split at ho
    · rename_i hc
      cases ho
      exact ⟨_, _, rfl, fun p l e R s m args below meth c G base z Q F H locs Ls cells slots hk hl hS w => lv_if_ne F.1 F.2.1 hd ht (fun q => absurd hc q) (fun _ => w)⟩
    · rename_i hc
      cases ho
      exact ⟨_, _, rfl, fun p l e R s m args below meth c G base z Q F H locs Ls cells slots hk hl hS w => lv_if_ne F.1 F.2.1 hd ht (fun _ => w) (fun q => absurd q hc)⟩
  · cases ho
theorem sm_clt {t n : Nat} {off : Int} (hd : decode cc pc = .ok (.if_icmp .lt off, 3)) (ht : (pc : Int) + off = (t : Int)) (hn : n = pc + 3) : ax_Sim ME ini own cc nL ret pc (a_clt t n) := by
  subst hn
  refine sm_pure (fun E cal ls st h o ho => ?_)
  simp only [a_clt] at ho
  split at ho
  · rename_i y x st1 h1 he
    cases he
    split at ho
    · rename_i hc
      cases ho
      exact ⟨_, _, rfl, fun p l e R s m args below meth c G base z Q F H locs Ls cells slots hk hl hS w => lv_icmp_lt F.1 F.2.1 hd ht (fun _ => w) (fun q => absurd hc q)⟩
    · rename_i hc
      cases ho
      exact ⟨_, _, rfl, fun p l e R s m args below meth c G base z Q F H locs Ls cells slots hk hl hS w => lv_icmp_lt F.1 F.2.1 hd ht (fun q => absurd q hc) (fun _ => w)⟩
  · cases ho
theorem sm_zlt {t n : Nat} {off : Int} (hd : decode cc pc = .ok (.ifCond .lt off, 3)) (ht : (pc : Int) + off = (t : Int)) (hn : n = pc + 3) : ax_Sim ME ini own cc nL ret pc (a_zlt t n) := by
  subst hn
  refine sm_pure (fun E cal ls st h o ho => ?_)
  simp only [a_zlt] at ho
  split at ho
  · rename_i x st1 h1 he
    cases he
    split at ho
    · rename_i hc
      cases ho
      exact ⟨_, _, rfl, fun p l e R s m args below meth c G base z Q F H locs Ls cells slots hk hl hS w => lv_if_lt F.1 F.2.1 hd ht (fun _ => w) (fun q => absurd hc q)⟩
    · rename_i hc
      cases ho
      exact ⟨_, _, rfl, fun p l e R s m args below meth c G base z Q F H locs Ls cells slots hk hl hS w => lv_if_lt F.1 F.2.1 hd ht (fun q => absurd q hc) (fun _ => w)⟩
  · cases ho
theorem sm_cge {t n : Nat} {off : Int} (hd : decode cc pc = .ok (.if_icmp .ge off, 3)) (ht : (pc : Int) + off = (t : Int)) (hn : n = pc + 3) : ax_Sim ME ini own cc nL ret pc (a_cge t n) := by
  subst hn
  refine sm_pure (fun E cal ls st h o ho => ?_)
  simp only [a_cge] at ho
  split at ho
  · rename_i y x st1 h1 he
    cases he
    split at ho
    · rename_i hc
      cases ho
      exact ⟨_, _, rfl, fun p l e R s m args below meth c G base z Q F H locs Ls cells slots hk hl hS w => lv_icmp_ge F.1 F.2.1 hd ht (fun _ => w) (fun q => absurd hc q)⟩
    · rename_i hc
      cases ho
      exact ⟨_, _, rfl, fun p l e R s m args below meth c G base z Q F H locs Ls cells slots hk hl hS w => lv_icmp_ge F.1 F.2.1 hd ht (fun q => absurd q hc) (fun _ => w)⟩
  · cases ho
theorem sm_zge {t n : Nat} {off : Int} (hd : decode cc pc = .ok (.ifCond .ge off, 3)) (ht : (pc : Int) + off = (t : Int)) (hn : n = pc + 3) : ax_Sim ME ini own cc nL ret pc (a_zge t n) := by
  subst hn
  refine sm_pure (fun E cal ls st h o ho => ?_)
  simp only [a_zge] at ho
  split at ho
  · rename_i x st1 h1 he
    cases he
    split at ho
    · rename_i hc
      cases ho
      exact ⟨_, _, rfl, fun p l e R s m args below meth c G base z Q F H locs Ls cells slots hk hl hS w => lv_if_ge F.1 F.2.1 hd ht (fun _ => w) (fun q => absurd hc q)⟩
    · rename_i hc
      cases ho
      exact ⟨_, _, rfl, fun p l e R s m args below meth c G base z Q F H locs Ls cells slots hk hl hS w => lv_if_ge F.1 F.2.1 hd ht (fun q => absurd q hc) (fun _ => w)⟩
  · cases ho
theorem sm_cgt {t n : Nat} {off : Int} (hd : decode cc pc = .ok (.if_icmp .gt off, 3)) (ht : (pc : Int) + off = (t : Int)) (hn : n = pc + 3) : ax_Sim ME ini own cc nL ret pc (a_cgt t n) := by
  subst hn
  refine sm_pure (fun E cal ls st h o ho => ?_)
  simp only [a_cgt] at ho
  split at ho
  · rename_i y x st1 h1 he
    cases he
    split at ho
    · rename_i hc
      cases ho
      exact ⟨_, _, rfl, fun p l e R s m args below meth c G base z Q F H locs Ls cells slots hk hl hS w => lv_icmp_gt F.1 F.2.1 hd ht (fun _ => w) (fun q => absurd hc q)⟩
    · rename_i hc
      cases ho
      exact ⟨_, _, rfl, fun p l e R s m args below meth c G base z Q F H locs Ls cells slots hk hl hS w => lv_icmp_gt F.1 F.2.1 hd ht (fun q => absurd q hc) (fun _ => w)⟩
  · cases ho
theorem sm_zgt {t n : Nat} {off : Int} (hd : decode cc pc = .ok (.ifCond .gt off, 3)) (ht : (pc : Int) + off = (t : Int)) (hn : n = pc + 3) : ax_Sim ME ini own cc nL ret pc (a_zgt t n) := by
  subst hn
  refine sm_pure (fun E cal ls st h o ho => ?_)
  simp only [a_zgt] at ho
  split at ho
  · rename_i x st1 h1 he
    cases he
    split at ho
    · rename_i hc
      cases ho
      exact ⟨_, _, rfl, fun p l e R s m args below meth c G base z Q F H locs Ls cells slots hk hl hS w => lv_if_gt F.1 F.2.1 hd ht (fun _ => w) (fun q => absurd hc q)⟩
    · rename_i hc
      cases ho
      exact ⟨_, _, rfl, fun p l e R s m args below meth c G base z Q F H locs Ls cells slots hk hl hS w => lv_if_gt F.1 F.2.1 hd ht (fun q => absurd q hc) (fun _ => w)⟩
  · cases ho
theorem sm_cle {t n : Nat} {off : Int} (hd : decode cc pc = .ok (.if_icmp .le off, 3)) (ht : (pc : Int) + off = (t : Int)) (hn : n = pc + 3) : ax_Sim ME ini own cc nL ret pc (a_cle t n) := by
  subst hn
  refine sm_pure (fun E cal ls st h o ho => ?_)
  simp only [a_cle] at ho
  split at ho
  · rename_i y x st1 h1 he
    cases he
    split at ho
    · rename_i hc
      cases ho
      exact ⟨_, _, rfl, fun p l e R s m args below meth c G base z Q F H locs Ls cells slots hk hl hS w => lv_icmp_le F.1 F.2.1 hd ht (fun _ => w) (fun q => absurd hc q)⟩
    · rename_i hc
      cases ho
      exact ⟨_, _, rfl, fun p l e R s m args below meth c G base z Q F H locs Ls cells slots hk hl hS w => lv_icmp_le F.1 F.2.1 hd ht (fun q => absurd q hc) (fun _ => w)⟩
  · cases ho
theorem sm_zle {t n : Nat} {off : Int} (hd : decode cc pc = .ok (.ifCond .le off, 3)) (ht : (pc : Int) + off = (t : Int)) (hn : n = pc + 3) : ax_Sim ME ini own cc nL ret pc (a_zle t n) := by
  subst hn
  refine sm_pure (fun E cal ls st h o ho => ?_)
  simp only [a_zle] at ho
  split at ho
  · rename_i x st1 h1 he
    cases he
    split at ho
    · rename_i hc
      cases ho
      exact ⟨_, _, rfl, fun p l e R s m args below meth c G base z Q F H locs Ls cells slots hk hl hS w => lv_if_le F.1 F.2.1 hd ht (fun _ => w) (fun q => absurd hc q)⟩
    · rename_i hc
      cases ho
      exact ⟨_, _, rfl, fun p l e R s m args below meth c G base z Q F H locs Ls cells slots hk hl hS w => lv_if_le F.1 F.2.1 hd ht (fun q => absurd q hc) (fun _ => w)⟩
  · cases ho
end SM
end
section
/-! SIMULATION of the acts on the heap -/
section SP
variable {p : Program} {l : Launch} {e : Env} {R : Room} {s : State} {m : MethodId} {args : Array Value} {below : List Frame} {meth : Method} {c : Code} {H : Heap} {locs : List Loc} {cells slots : Nat} {Q : State → Prop}
variable {cc : ByteArray} {pc : Nat} {ls : Array Slot} {rest : List Value} {D : va_G} {cl : List vw_C} {a : Nat} {tys : List (ClassId × FieldType)}

theorem ax_putW (hexec : p.tables.exec = Jvm.exec) (hb : c.code = cc) {own ref C : String} {T : u_T} {N ci index : Nat} {Ts : List Cond} (hts : ∀ w ∈ Ts, w.before args s = true) (hin : ∀ w ∈ u_ws C T N, w ∈ Ts) (ty0 : Nat → FieldType) (hty : ∀ k, k < N → parseFieldDescriptor (T k).2.2.1 = some (ty0 k)) (hnm : ∀ a, a < N → ∀ b, b < N → a ≠ b → (T a).2.1 ≠ (T b).2.1) (hown : s.vm.findClass own = some m.cls) (hK : va_K D cl tys s) {fs : List Value} (he : va_at D cl (a, .inr (ci, fs)) H) (hc : cl[ci]? = some (C, T, N)) (k : Nat) (hk : k < N) (hlink : (Cond.fieldLink own index ref (T k).2.1 (T k).2.2.1).before args s = true) (hsame : ∀ x, s.fieldFound? (T k).1 (T k).2.1 (T k).2.2.1 = some x → s.fieldFound? ref (T k).2.1 (T k).2.2.1 = some x) (hfin : (T k).2.2.2 = false) {ty : FieldType} {v : Value} (hd : parseFieldDescriptor (T k).2.2.1 = some ty) (hn : narrow ty v = v) (hfit : fits ty v = true) (hl : k < fs.length)
    (hdg : decode cc pc = .ok (.putfield index, 3)) (kk : ∀ (H1 : Heap) (i : Nat), va_at D cl (a, .inr (ci, fs.set k v)) H1 → H1.size = H.size → (∀ q : Nat, q ≠ a → H1[q]? = H[q]?) → W p l e R s m args below meth c H1 (locs ++ [⟨a, i⟩]) cells slots Q (F0 m (pc + 3) ls rest)) : W p l e R s m args below meth c H locs cells slots Q (F0 m pc ls (v :: .ref a :: rest)) := by
  have hap := va_apart (own := own) hts hin ty0 hty hnm hK hc
  obtain ⟨r, h1, cell, q1, q2, q3, q4⟩ := he
  have hr : r = (C, T, N) := Option.some.inj (h1.symm.trans hc)
  subst hr
  obtain ⟨hS, hfc, kC, hkC, hkind⟩ := hK.1 ci _ hc
  obtain ⟨cf, kf, fi, f, hi, hsl⟩ := hS k hk
  have hlay := hts _ (hin _ (u_in_lay hk))
  unfold u_lay at hlay
  rw [if_neg (by rw [hfin]; decide)] at hlay
  have hst := (u_facts hfc hkC (u_lays hts hin hk) hi).1
  have h6 := u_store hfc hkC hkind hlay hi hd hn hfit
  refine W.putK hexec hb (f := f) ⟨hown, hlink, ⟨_, _, _, hsame _ hi⟩, hst⟩ (by rw [q2]; exact h6) q1 q3 (by rw [hsl]; exact k2_hasslot (q4 k hk)) rfl rfl hdg fun H' e1 e2 e3 => ?_
  rw [hsl] at e1 ⊢
  exact kk H' _ ⟨_, hc, t_OB.to (V := updV (vp_V fs) k v) ⟨_, e1, q2, q3, t_set q4 hap hk v⟩ (fun j _ => vp_updV_set hl v j)⟩ e2 e3
theorem ax_putWN (hexec : p.tables.exec = Jvm.exec) (hb : c.code = cc) {own ref C host : String} {T : u_T} {N ci index : Nat} {Ts : List Cond} (hts : ∀ w ∈ Ts, w.before args s = true) (hin : ∀ w ∈ u_ws C T N, w ∈ Ts) (ty0 : Nat → FieldType) (hty : ∀ k, k < N → parseFieldDescriptor (T k).2.2.1 = some (ty0 k)) (hnm : ∀ a, a < N → ∀ b, b < N → a ≠ b → (T a).2.1 ≠ (T b).2.1) (hown : s.vm.findClass own = some m.cls) (hK : va_K D cl tys s) {fs : List Value} (he : va_at D cl (a, .inr (ci, fs)) H) (hc : cl[ci]? = some (C, T, N)) (k : Nat) (hk : k < N) (hlink : (Cond.fieldLinkNest own index ref (T k).2.1 (T k).2.2.1 host).before args s = true) (hsame : ∀ x, s.fieldFound? (T k).1 (T k).2.1 (T k).2.2.1 = some x → s.fieldFound? ref (T k).2.1 (T k).2.2.1 = some x) (hfin : (T k).2.2.2 = false) {ty : FieldType} {v : Value} (hd : parseFieldDescriptor (T k).2.2.1 = some ty) (hn : narrow ty v = v) (hfit : fits ty v = true) (hl : k < fs.length)
    (hdg : decode cc pc = .ok (.putfield index, 3)) (kk : ∀ (H1 : Heap) (i : Nat), va_at D cl (a, .inr (ci, fs.set k v)) H1 → H1.size = H.size → (∀ q : Nat, q ≠ a → H1[q]? = H[q]?) → W p l e R s m args below meth c H1 (locs ++ [⟨a, i⟩]) cells slots Q (F0 m (pc + 3) ls rest)) : W p l e R s m args below meth c H locs cells slots Q (F0 m pc ls (v :: .ref a :: rest)) := by
  have hap := va_apart (own := own) hts hin ty0 hty hnm hK hc
  obtain ⟨r, h1, cell, q1, q2, q3, q4⟩ := he
  have hr : r = (C, T, N) := Option.some.inj (h1.symm.trans hc)
  subst hr
  obtain ⟨hS, hfc, kC, hkC, hkind⟩ := hK.1 ci _ hc
  obtain ⟨cf, kf, fi, f, hi, hsl⟩ := hS k hk
  have hlay := hts _ (hin _ (u_in_lay hk))
  unfold u_lay at hlay
  rw [if_neg (by rw [hfin]; decide)] at hlay
  have hst := (u_facts hfc hkC (u_lays hts hin hk) hi).1
  have h6 := u_store hfc hkC hkind hlay hi hd hn hfit
  refine va_WputK hexec hb (f := f) hown hlink (hsame _ hi) hst (by rw [q2]; exact h6) q1 q3 (by rw [hsl]; exact k2_hasslot (q4 k hk)) rfl rfl hdg fun H' e1 e2 e3 => ?_
  rw [hsl] at e1 ⊢
  exact kk H' _ ⟨_, hc, t_OB.to (V := updV (vp_V fs) k v) ⟨_, e1, q2, q3, t_set q4 hap hk v⟩ (fun j _ => vp_updV_set hl v j)⟩ e2 e3
theorem ax_putWF (hexec : p.tables.exec = Jvm.exec) (hb : c.code = cc) {own ref C : String} {T : u_T} {N ci index : Nat} {Ts : List Cond} (hts : ∀ w ∈ Ts, w.before args s = true) (hin : ∀ w ∈ u_ws C T N, w ∈ Ts) (ty0 : Nat → FieldType) (hty : ∀ k, k < N → parseFieldDescriptor (T k).2.2.1 = some (ty0 k)) (hnm : ∀ a, a < N → ∀ b, b < N → a ≠ b → (T a).2.1 ≠ (T b).2.1) (hown : s.vm.findClass own = some m.cls) (hK : va_K D cl tys s) {fs : List Value} (he : va_at D cl (a, .inr (ci, fs)) H) (hc : cl[ci]? = some (C, T, N)) (k : Nat) (hk : k < N) (hlink : (Cond.fieldLink own index ref (T k).2.1 (T k).2.2.1).before args s = true) (hsame : ∀ x, s.fieldFound? (T k).1 (T k).2.1 (T k).2.2.1 = some x → s.fieldFound? ref (T k).2.1 (T k).2.2.1 = some x) (hfin : (T k).2.2.2 = true) (hin2 : meth.name = "<init>") (hdecl : (T k).1 = own) {ty : FieldType} {v : Value} (hd : parseFieldDescriptor (T k).2.2.1 = some ty) (hn : narrow ty v = v) (hfit : fits ty v = true) (hl : k < fs.length)
    (hdg : decode cc pc = .ok (.putfield index, 3)) (kk : ∀ (H1 : Heap) (i : Nat), va_at D cl (a, .inr (ci, fs.set k v)) H1 → H1.size = H.size → (∀ q : Nat, q ≠ a → H1[q]? = H[q]?) → W p l e R s m args below meth c H1 (locs ++ [⟨a, i⟩]) cells slots Q (F0 m (pc + 3) ls rest)) : W p l e R s m args below meth c H locs cells slots Q (F0 m pc ls (v :: .ref a :: rest)) := by
  have hap := va_apart (own := own) hts hin ty0 hty hnm hK hc
  obtain ⟨r, h1, cell, q1, q2, q3, q4⟩ := he
  have hr : r = (C, T, N) := Option.some.inj (h1.symm.trans hc)
  subst hr
  obtain ⟨hS, hfc, kC, hkC, hkind⟩ := hK.1 ci _ hc
  obtain ⟨cf, kf, fi, f, hi, hsl⟩ := hS k hk
  have hlay := hts _ (hin _ (u_in_lay hk))
  unfold u_lay at hlay
  rw [if_pos hfin] at hlay
  have hst := (u_facts hfc hkC (u_lays hts hin hk) hi).1
  have hcf : m.cls = cf := by
    obtain ⟨_, _, c', _, _, _, -, -, hf', -, -, -, hown2, -⟩ := Cond.laysFinal_spec hlay
    have e1 : c' = cf := by have := hi.symm.trans hf'; simp at this; exact this.1.symm
    rw [hdecl] at hown2
    rw [← e1]; exact Option.some.inj (hown.symm.trans hown2)
  have h6 := u_fits hfc hkC hkind (Or.inr hlay) hi hd hn hfit
  refine W.putFinK hexec hb hown hlink (hsame _ hi) hst hcf hin2 (by rw [q2]; exact h6) q1 q3 (by rw [hsl]; exact k2_hasslot (q4 k hk)) rfl rfl hdg fun H' e1 e2 e3 => ?_
  rw [hsl] at e1 ⊢
  exact kk H' _ ⟨_, hc, t_OB.to (V := updV (vp_V fs) k v) ⟨_, e1, q2, q3, t_set q4 hap hk v⟩ (fun j _ => vp_updV_set hl v j)⟩ e2 e3
end SP
theorem ax_ok_set {G : ax_G} {base : Nat} {rz : Nat → Nat} {sh : List (Nat × Nat)} {I : Nat → Nat → Int32} {R : Nat → Nat → Option Nat} {H H1 : Heap} {q : Nat} {c : Nat × Nat} {f : Nat → Int32} {r : Nat → Option Nat} (hk : ax_ok G base rz (sh, I, R) H) (hc : ax_nth sh q = some c)
    (hat : va_at G.1 vwCl (rz q, ax_cell G rz c f r) H1) (hz : H1.size = H.size) (oq : ∀ a : Nat, a ≠ rz q → H1[a]? = H[a]?) : ax_ok G base rz (sh, va_up I q f, va_up R q r) H1 := by
  refine ⟨hz.trans hk.1, hk.2.1, hk.2.2.1, hk.2.2.2.1, ?_⟩
  rw [← ax_ws_set G rz hc f r]
  exact hk.2.2.2.2.set (ax_D hk) (ax_ws_get G rz (h := (sh, I, R)) hc) hat oq
theorem ax_ok_at {G : ax_G} {base : Nat} {rz : Nat → Nat} {h : ax_H} {H : Heap} {q : Nat} {c : Nat × Nat} (hk : ax_ok G base rz h H) (hc : ax_nth h.1 q = some c) : va_at G.1 vwCl (rz q, ax_cell G rz c (h.2.1 q) (h.2.2 q)) H := hk.2.2.2.2 q _ (ax_ws_get G rz hc)
theorem ax_cell_o (G : ax_G) (rz : Nat → Nat) {ci N : Nat} (h : ci < 100) (f : Nat → Int32) (r : Nat → Option Nat) : ax_cell G rz (ci, N) f r = .inr (ci, ax_fs rz ci N f r) := by
  simp [ax_cell, Nat.ne_of_lt h, show ci ≠ 101 by omega, show ci ≠ 102 by omega]
theorem ax_cell_i (G : ax_G) (rz : Nat → Nat) {c : Nat × Nat} (h : c.1 = 100) (f : Nat → Int32) (r : Nat → Option Nat) : ax_cell G rz c f r = .inl (G.2.1, c.2, .inl f) := by simp [ax_cell, h]
theorem ax_cell_c (G : ax_G) (rz : Nat → Nat) {c : Nat × Nat} (h : c.1 = 101) (f : Nat → Int32) (r : Nat → Option Nat) : ax_cell G rz c f r = .inl (G.2.2.1, c.2, .inl f) := by simp [ax_cell, h]
theorem ax_cell_r (G : ax_G) (rz : Nat → Nat) {c : Nat × Nat} (h : c.1 = 102) (f : Nat → Int32) (r : Nat → Option Nat) : ax_cell G rz c f r = .inl (G.2.2.2, c.2, .inr (.inr (.inr (.inr (fun j => (r j).map rz))))) := by simp [ax_cell, h]
section SM2
variable {ME : Nat → Option ax_M} {ini : Bool} {own : String} {cc : ByteArray} {nL : Nat} {ret : Option FieldType} {pc : Nat}

theorem sm_getI {ci N k n idx : Nat} {C : String} {T : u_T} (hd : decode cc pc = .ok (.getfield idx, 3)) (hw : Cond.fieldLink own idx C (T k).2.1 (T k).2.2.1 ∈ ax_tbl) (hin : ∀ w ∈ u_ws C T N, w ∈ ax_tbl) (hc : vwCl[ci]? = some (C, T, N)) (hk : k < N) (h0 : ax_isr ci k = false) (hdc : (T k).1 = C) (h100 : ci < 100) (hn : n = pc + 3) : ax_Sim ME ini own cc nL ret pc (a_getI ci N k n) := by
  subst hn
  refine sm_pure (fun E cal ls st h o ho => ?_)
  obtain ⟨sh, I, RR⟩ := h
  simp only [a_getI] at ho
  split at ho
  · rename_i q st1 sh1 I1 R1 he
    cases he
    split at ho
    · rename_i c1 hc1
      split at ho
      · rename_i e1
        subst e1
        cases ho
        refine ⟨_, _, rfl, fun p l e R s m args below meth c G base z Q F H locs Ls cells slots HK hl hS w => ?_⟩
        have hv : (ax_fs z.1 ci N (I q) (RR q))[k]? = some (.int (I q k)) := by rw [ax_fs_at z.1 ci hk, h0]; rfl
        exact va_get F.1 F.2.1 F.2.2.2.2.1 hin F.2.2.2.1 F.2.2.2.2.2.1 HK.2.2.2.2 q (by rw [ax_ws_get G z.1 (h := (sh, I, RR)) hc1, ax_cell_o G z.1 h100]) hc k hk (F.2.2.2.2.1 _ hw) (fun x hx => by rw [hdc] at hx; exact hx) hv hd w
      · cases ho
    · cases ho
  · cases ho
theorem sm_getR {ci N k n idx : Nat} {C : String} {T : u_T} (hd : decode cc pc = .ok (.getfield idx, 3)) (hw : Cond.fieldLink own idx C (T k).2.1 (T k).2.2.1 ∈ ax_tbl) (hin : ∀ w ∈ u_ws C T N, w ∈ ax_tbl) (hc : vwCl[ci]? = some (C, T, N)) (hk : k < N) (h0 : ax_isr ci k = true) (hdc : (T k).1 = C) (h100 : ci < 100) (hn : n = pc + 3) : ax_Sim ME ini own cc nL ret pc (a_getR ci N k n) := by
  subst hn
  refine sm_pure (fun E cal ls st h o ho => ?_)
  obtain ⟨sh, I, RR⟩ := h
  simp only [a_getR] at ho
  split at ho
  · rename_i q st1 sh1 I1 R1 he
    cases he
    split at ho
    · rename_i c1 hc1
      split at ho
      · rename_i e1
        subst e1
        split at ho
        · rename_i j hj
          cases ho
          refine ⟨_, _, rfl, fun p l e R s m args below meth c G base z Q F H locs Ls cells slots HK hl hS w => ?_⟩
          have hv : (ax_fs z.1 ci N (I q) (RR q))[k]? = some (.ref (z.1 j)) := by rw [ax_fs_at z.1 ci hk, h0, hj]; rfl
          exact va_get F.1 F.2.1 F.2.2.2.2.1 hin F.2.2.2.1 F.2.2.2.2.2.1 HK.2.2.2.2 q (by rw [ax_ws_get G z.1 (h := (sh, I, RR)) hc1, ax_cell_o G z.1 h100]) hc k hk (F.2.2.2.2.1 _ hw) (fun x hx => by rw [hdc] at hx; exact hx) hv hd w
        · cases ho
      · cases ho
    · cases ho
  · cases ho
theorem sm_getIN {ci N k n idx : Nat} {host : String} {C : String} {T : u_T} (hd : decode cc pc = .ok (.getfield idx, 3)) (hw : Cond.fieldLinkNest own idx C (T k).2.1 (T k).2.2.1 host ∈ ax_tbl) (hin : ∀ w ∈ u_ws C T N, w ∈ ax_tbl) (hc : vwCl[ci]? = some (C, T, N)) (hk : k < N) (h0 : ax_isr ci k = false) (hdc : (T k).1 = C) (h100 : ci < 100) (hn : n = pc + 3) : ax_Sim ME ini own cc nL ret pc (a_getI ci N k n) := by
  subst hn
  refine sm_pure (fun E cal ls st h o ho => ?_)
  obtain ⟨sh, I, RR⟩ := h
  simp only [a_getI] at ho
  split at ho
  · rename_i q st1 sh1 I1 R1 he
    cases he
    split at ho
    · rename_i c1 hc1
      split at ho
      · rename_i e1
        subst e1
        cases ho
        refine ⟨_, _, rfl, fun p l e R s m args below meth c G base z Q F H locs Ls cells slots HK hl hS w => ?_⟩
        have hv : (ax_fs z.1 ci N (I q) (RR q))[k]? = some (.int (I q k)) := by rw [ax_fs_at z.1 ci hk, h0]; rfl
        exact va_getN F.1 F.2.1 F.2.2.2.2.1 hin F.2.2.2.1 F.2.2.2.2.2.1 HK.2.2.2.2 q (by rw [ax_ws_get G z.1 (h := (sh, I, RR)) hc1, ax_cell_o G z.1 h100]) hc k hk (F.2.2.2.2.1 _ hw) (fun x hx => by rw [hdc] at hx; exact hx) hv hd w
      · cases ho
    · cases ho
  · cases ho
theorem sm_getRN {ci N k n idx : Nat} {host : String} {C : String} {T : u_T} (hd : decode cc pc = .ok (.getfield idx, 3)) (hw : Cond.fieldLinkNest own idx C (T k).2.1 (T k).2.2.1 host ∈ ax_tbl) (hin : ∀ w ∈ u_ws C T N, w ∈ ax_tbl) (hc : vwCl[ci]? = some (C, T, N)) (hk : k < N) (h0 : ax_isr ci k = true) (hdc : (T k).1 = C) (h100 : ci < 100) (hn : n = pc + 3) : ax_Sim ME ini own cc nL ret pc (a_getR ci N k n) := by
  subst hn
  refine sm_pure (fun E cal ls st h o ho => ?_)
  obtain ⟨sh, I, RR⟩ := h
  simp only [a_getR] at ho
  split at ho
  · rename_i q st1 sh1 I1 R1 he
    cases he
    split at ho
    · rename_i c1 hc1
      split at ho
      · rename_i e1
        subst e1
        split at ho
        · rename_i j hj
          cases ho
          refine ⟨_, _, rfl, fun p l e R s m args below meth c G base z Q F H locs Ls cells slots HK hl hS w => ?_⟩
          have hv : (ax_fs z.1 ci N (I q) (RR q))[k]? = some (.ref (z.1 j)) := by rw [ax_fs_at z.1 ci hk, h0, hj]; rfl
          exact va_getN F.1 F.2.1 F.2.2.2.2.1 hin F.2.2.2.1 F.2.2.2.2.2.1 HK.2.2.2.2 q (by rw [ax_ws_get G z.1 (h := (sh, I, RR)) hc1, ax_cell_o G z.1 h100]) hc k hk (F.2.2.2.2.1 _ hw) (fun x hx => by rw [hdc] at hx; exact hx) hv hd w
        · cases ho
      · cases ho
    · cases ho
  · cases ho
theorem sm_putI {ci N k n idx : Nat} {C : String} {T : u_T} (hd : decode cc pc = .ok (.putfield idx, 3)) (hw : Cond.fieldLink own idx C (T k).2.1 (T k).2.2.1 ∈ ax_tbl) (hin : ∀ w ∈ u_ws C T N, w ∈ ax_tbl) (ty0 : Nat → FieldType) (hty : ∀ k, k < N → parseFieldDescriptor (T k).2.2.1 = some (ty0 k)) (hnm : ∀ a, a < N → ∀ b, b < N → a ≠ b → (T a).2.1 ≠ (T b).2.1) (hc : vwCl[ci]? = some (C, T, N)) (hk : k < N) (h0 : ax_isr ci k = false) (hdc : (T k).1 = C) (h100 : ci < 100) (hfin : (T k).2.2.2 = false) (hdp : parseFieldDescriptor (T k).2.2.1 = some .int) (hn : n = pc + 3) : ax_Sim ME ini own cc nL ret pc (a_putI ci N k n) := by
  subst hn
  intro E cal ls st h o ho
  obtain ⟨sh, I, RR⟩ := h
  simp only [a_putI] at ho
  split at ho
  · rename_i x q st1 sh1 I1 R1 he
    cases he
    split at ho
    · rename_i c1 hc1
      split at ho
      · rename_i e1
        subst e1
        cases ho
        refine ⟨fun _ => ⟨Nat.le_refl _, Nat.le_refl _⟩, fun p l e R s m args below meth c G base z Q h0' F hC _ _ _ _ w H locs Ls cells slots HK hl hS hcc hss => ?_⟩
        have hat := ax_ok_at HK hc1
        rw [ax_cell_o G z.1 h100] at hat
        refine ax_putW F.1 F.2.1 F.2.2.2.2.1 hin ty0 hty hnm F.2.2.2.1 F.2.2.2.2.2.1 hat hc k hk (F.2.2.2.2.1 _ hw) (fun x hx => by rw [hdc] at hx; exact hx) hfin hdp rfl rfl (by show k < (ax_fs _ _ _ _ _).length; rw [ax_fs_len]; exact hk) hd (fun H1 i e1 e2 e3 => ?_)
        have e1' : va_at G.1 vwCl (z.1 q, ax_cell G z.1 (ci, N) (upd (I q) k x) (RR q)) H1 := by
          rw [ax_cell_o G z.1 h100, ← ax_fs_i z.1 ci N h0]; exact e1
        have HK1 := ax_ok_set HK hc1 e1' e2 e3
        rw [ax_up_id RR q] at HK1
        exact w H1 _ Ls cells slots HK1 hl (hS.put e2 e3 (HK.2.1 q)) hcc hss
      · cases ho
    · cases ho
  · cases ho
theorem sm_putZ {ci N k n idx : Nat} {C : String} {T : u_T} (hd : decode cc pc = .ok (.putfield idx, 3)) (hw : Cond.fieldLink own idx C (T k).2.1 (T k).2.2.1 ∈ ax_tbl) (hin : ∀ w ∈ u_ws C T N, w ∈ ax_tbl) (ty0 : Nat → FieldType) (hty : ∀ k, k < N → parseFieldDescriptor (T k).2.2.1 = some (ty0 k)) (hnm : ∀ a, a < N → ∀ b, b < N → a ≠ b → (T a).2.1 ≠ (T b).2.1) (hc : vwCl[ci]? = some (C, T, N)) (hk : k < N) (h0 : ax_isr ci k = false) (hdc : (T k).1 = C) (h100 : ci < 100) (hfin : (T k).2.2.2 = false) (hdp : parseFieldDescriptor (T k).2.2.1 = some .boolean) (hn : n = pc + 3) : ax_Sim ME ini own cc nL ret pc (a_putZ ci N k n) := by
  subst hn
  intro E cal ls st h o ho
  obtain ⟨sh, I, RR⟩ := h
  simp only [a_putZ] at ho
  split at ho
  · rename_i x q st1 sh1 I1 R1 he
    cases he
    split at ho
    · rename_i c1 hc1
      split at ho
      · rename_i e1
        obtain ⟨e1, hx01⟩ := e1
        subst e1
        cases ho
        refine ⟨fun _ => ⟨Nat.le_refl _, Nat.le_refl _⟩, fun p l e R s m args below meth c G base z Q h0' F hC _ _ _ _ w H locs Ls cells slots HK hl hS hcc hss => ?_⟩
        have hat := ax_ok_at HK hc1
        rw [ax_cell_o G z.1 h100] at hat
        refine ax_putW F.1 F.2.1 F.2.2.2.2.1 hin ty0 hty hnm F.2.2.2.1 F.2.2.2.2.2.1 hat hc k hk (F.2.2.2.2.1 _ hw) (fun x hx => by rw [hdc] at hx; exact hx) hfin hdp (by rcases hx01 with rfl | rfl <;> rfl) (by rcases hx01 with rfl | rfl <;> rfl) (by show k < (ax_fs _ _ _ _ _).length; rw [ax_fs_len]; exact hk) hd (fun H1 i e1 e2 e3 => ?_)
        have e1' : va_at G.1 vwCl (z.1 q, ax_cell G z.1 (ci, N) (upd (I q) k x) (RR q)) H1 := by
          rw [ax_cell_o G z.1 h100, ← ax_fs_i z.1 ci N h0]; exact e1
        have HK1 := ax_ok_set HK hc1 e1' e2 e3
        rw [ax_up_id RR q] at HK1
        exact w H1 _ Ls cells slots HK1 hl (hS.put e2 e3 (HK.2.1 q)) hcc hss
      · cases ho
    · cases ho
  · cases ho
theorem sm_putR {ci N k n idx : Nat} {C : String} {T : u_T} {ty : FieldType} (hd : decode cc pc = .ok (.putfield idx, 3)) (hw : Cond.fieldLink own idx C (T k).2.1 (T k).2.2.1 ∈ ax_tbl) (hin : ∀ w ∈ u_ws C T N, w ∈ ax_tbl) (ty0 : Nat → FieldType) (hty : ∀ k, k < N → parseFieldDescriptor (T k).2.2.1 = some (ty0 k)) (hnm : ∀ a, a < N → ∀ b, b < N → a ≠ b → (T a).2.1 ≠ (T b).2.1) (hc : vwCl[ci]? = some (C, T, N)) (hk : k < N) (h0 : ax_isr ci k = true) (hdc : (T k).1 = C) (h100 : ci < 100) (hfin : (T k).2.2.2 = false) (hdp : parseFieldDescriptor (T k).2.2.1 = some ty) (hty9 : (∃ o, ty = .object o) ∨ ∃ t, ty = .array t) (hn : n = pc + 3) : ax_Sim ME ini own cc nL ret pc (a_putR ci N k n) := by
  subst hn
  intro E cal ls st h o ho
  obtain ⟨sh, I, RR⟩ := h
  simp only [a_putR] at ho
  split at ho
  · rename_i x q st1 sh1 I1 R1 he
    cases he
    split at ho
    · rename_i c1 hc1
      split at ho
      · rename_i e1
        subst e1
        cases ho
        refine ⟨fun _ => ⟨Nat.le_refl _, Nat.le_refl _⟩, fun p l e R s m args below meth c G base z Q h0' F hC _ _ _ _ w H locs Ls cells slots HK hl hS hcc hss => ?_⟩
        have hat := ax_ok_at HK hc1
        rw [ax_cell_o G z.1 h100] at hat
        refine ax_putW F.1 F.2.1 F.2.2.2.2.1 hin ty0 hty hnm F.2.2.2.1 F.2.2.2.2.2.1 hat hc k hk (F.2.2.2.2.1 _ hw) (fun x hx => by rw [hdc] at hx; exact hx) hfin hdp (by rcases hty9 with ⟨o, rfl⟩ | ⟨t, rfl⟩ <;> rfl) (by rcases hty9 with ⟨o, rfl⟩ | ⟨t, rfl⟩ <;> rfl) (by show k < (ax_fs _ _ _ _ _).length; rw [ax_fs_len]; exact hk) hd (fun H1 i e1 e2 e3 => ?_)
        have e1' : va_at G.1 vwCl (z.1 q, ax_cell G z.1 (ci, N) (I q) (va_up (RR q) k (some x))) H1 := by
          rw [ax_cell_o G z.1 h100, ← ax_fs_r z.1 ci N h0]; exact e1
        have HK1 := ax_ok_set HK hc1 e1' e2 e3
        rw [ax_up_id I q] at HK1
        exact w H1 _ Ls cells slots HK1 hl (hS.put e2 e3 (HK.2.1 q)) hcc hss
      · cases ho
    · cases ho
  · cases ho
theorem sm_putIN {ci N k n idx : Nat} {host : String} {C : String} {T : u_T} (hd : decode cc pc = .ok (.putfield idx, 3)) (hw : Cond.fieldLinkNest own idx C (T k).2.1 (T k).2.2.1 host ∈ ax_tbl) (hin : ∀ w ∈ u_ws C T N, w ∈ ax_tbl) (ty0 : Nat → FieldType) (hty : ∀ k, k < N → parseFieldDescriptor (T k).2.2.1 = some (ty0 k)) (hnm : ∀ a, a < N → ∀ b, b < N → a ≠ b → (T a).2.1 ≠ (T b).2.1) (hc : vwCl[ci]? = some (C, T, N)) (hk : k < N) (h0 : ax_isr ci k = false) (hdc : (T k).1 = C) (h100 : ci < 100) (hfin : (T k).2.2.2 = false) (hdp : parseFieldDescriptor (T k).2.2.1 = some .int) (hn : n = pc + 3) : ax_Sim ME ini own cc nL ret pc (a_putI ci N k n) := by
  subst hn
  intro E cal ls st h o ho
  obtain ⟨sh, I, RR⟩ := h
  simp only [a_putI] at ho
  split at ho
  · rename_i x q st1 sh1 I1 R1 he
    cases he
    split at ho
    · rename_i c1 hc1
      split at ho
      · rename_i e1
        subst e1
        cases ho
        refine ⟨fun _ => ⟨Nat.le_refl _, Nat.le_refl _⟩, fun p l e R s m args below meth c G base z Q h0' F hC _ _ _ _ w H locs Ls cells slots HK hl hS hcc hss => ?_⟩
        have hat := ax_ok_at HK hc1
        rw [ax_cell_o G z.1 h100] at hat
        refine ax_putWN F.1 F.2.1 F.2.2.2.2.1 hin ty0 hty hnm F.2.2.2.1 F.2.2.2.2.2.1 hat hc k hk (F.2.2.2.2.1 _ hw) (fun x hx => by rw [hdc] at hx; exact hx) hfin hdp rfl rfl (by show k < (ax_fs _ _ _ _ _).length; rw [ax_fs_len]; exact hk) hd (fun H1 i e1 e2 e3 => ?_)
        have e1' : va_at G.1 vwCl (z.1 q, ax_cell G z.1 (ci, N) (upd (I q) k x) (RR q)) H1 := by
          rw [ax_cell_o G z.1 h100, ← ax_fs_i z.1 ci N h0]; exact e1
        have HK1 := ax_ok_set HK hc1 e1' e2 e3
        rw [ax_up_id RR q] at HK1
        exact w H1 _ Ls cells slots HK1 hl (hS.put e2 e3 (HK.2.1 q)) hcc hss
      · cases ho
    · cases ho
  · cases ho
theorem sm_putZN {ci N k n idx : Nat} {host : String} {C : String} {T : u_T} (hd : decode cc pc = .ok (.putfield idx, 3)) (hw : Cond.fieldLinkNest own idx C (T k).2.1 (T k).2.2.1 host ∈ ax_tbl) (hin : ∀ w ∈ u_ws C T N, w ∈ ax_tbl) (ty0 : Nat → FieldType) (hty : ∀ k, k < N → parseFieldDescriptor (T k).2.2.1 = some (ty0 k)) (hnm : ∀ a, a < N → ∀ b, b < N → a ≠ b → (T a).2.1 ≠ (T b).2.1) (hc : vwCl[ci]? = some (C, T, N)) (hk : k < N) (h0 : ax_isr ci k = false) (hdc : (T k).1 = C) (h100 : ci < 100) (hfin : (T k).2.2.2 = false) (hdp : parseFieldDescriptor (T k).2.2.1 = some .boolean) (hn : n = pc + 3) : ax_Sim ME ini own cc nL ret pc (a_putZ ci N k n) := by
  subst hn
  intro E cal ls st h o ho
  obtain ⟨sh, I, RR⟩ := h
  simp only [a_putZ] at ho
  split at ho
  · rename_i x q st1 sh1 I1 R1 he
    cases he
    split at ho
    · rename_i c1 hc1
      split at ho
      · rename_i e1
        obtain ⟨e1, hx01⟩ := e1
        subst e1
        cases ho
        refine ⟨fun _ => ⟨Nat.le_refl _, Nat.le_refl _⟩, fun p l e R s m args below meth c G base z Q h0' F hC _ _ _ _ w H locs Ls cells slots HK hl hS hcc hss => ?_⟩
        have hat := ax_ok_at HK hc1
        rw [ax_cell_o G z.1 h100] at hat
        refine ax_putWN F.1 F.2.1 F.2.2.2.2.1 hin ty0 hty hnm F.2.2.2.1 F.2.2.2.2.2.1 hat hc k hk (F.2.2.2.2.1 _ hw) (fun x hx => by rw [hdc] at hx; exact hx) hfin hdp (by rcases hx01 with rfl | rfl <;> rfl) (by rcases hx01 with rfl | rfl <;> rfl) (by show k < (ax_fs _ _ _ _ _).length; rw [ax_fs_len]; exact hk) hd (fun H1 i e1 e2 e3 => ?_)
        have e1' : va_at G.1 vwCl (z.1 q, ax_cell G z.1 (ci, N) (upd (I q) k x) (RR q)) H1 := by
          rw [ax_cell_o G z.1 h100, ← ax_fs_i z.1 ci N h0]; exact e1
        have HK1 := ax_ok_set HK hc1 e1' e2 e3
        rw [ax_up_id RR q] at HK1
        exact w H1 _ Ls cells slots HK1 hl (hS.put e2 e3 (HK.2.1 q)) hcc hss
      · cases ho
    · cases ho
  · cases ho
theorem sm_putRN {ci N k n idx : Nat} {host : String} {C : String} {T : u_T} {ty : FieldType} (hd : decode cc pc = .ok (.putfield idx, 3)) (hw : Cond.fieldLinkNest own idx C (T k).2.1 (T k).2.2.1 host ∈ ax_tbl) (hin : ∀ w ∈ u_ws C T N, w ∈ ax_tbl) (ty0 : Nat → FieldType) (hty : ∀ k, k < N → parseFieldDescriptor (T k).2.2.1 = some (ty0 k)) (hnm : ∀ a, a < N → ∀ b, b < N → a ≠ b → (T a).2.1 ≠ (T b).2.1) (hc : vwCl[ci]? = some (C, T, N)) (hk : k < N) (h0 : ax_isr ci k = true) (hdc : (T k).1 = C) (h100 : ci < 100) (hfin : (T k).2.2.2 = false) (hdp : parseFieldDescriptor (T k).2.2.1 = some ty) (hty9 : (∃ o, ty = .object o) ∨ ∃ t, ty = .array t) (hn : n = pc + 3) : ax_Sim ME ini own cc nL ret pc (a_putR ci N k n) := by
  subst hn
  intro E cal ls st h o ho
  obtain ⟨sh, I, RR⟩ := h
  simp only [a_putR] at ho
  split at ho
  · rename_i x q st1 sh1 I1 R1 he
    cases he
    split at ho
    · rename_i c1 hc1
      split at ho
      · rename_i e1
        subst e1
        cases ho
        refine ⟨fun _ => ⟨Nat.le_refl _, Nat.le_refl _⟩, fun p l e R s m args below meth c G base z Q h0' F hC _ _ _ _ w H locs Ls cells slots HK hl hS hcc hss => ?_⟩
        have hat := ax_ok_at HK hc1
        rw [ax_cell_o G z.1 h100] at hat
        refine ax_putWN F.1 F.2.1 F.2.2.2.2.1 hin ty0 hty hnm F.2.2.2.1 F.2.2.2.2.2.1 hat hc k hk (F.2.2.2.2.1 _ hw) (fun x hx => by rw [hdc] at hx; exact hx) hfin hdp (by rcases hty9 with ⟨o, rfl⟩ | ⟨t, rfl⟩ <;> rfl) (by rcases hty9 with ⟨o, rfl⟩ | ⟨t, rfl⟩ <;> rfl) (by show k < (ax_fs _ _ _ _ _).length; rw [ax_fs_len]; exact hk) hd (fun H1 i e1 e2 e3 => ?_)
        have e1' : va_at G.1 vwCl (z.1 q, ax_cell G z.1 (ci, N) (I q) (va_up (RR q) k (some x))) H1 := by
          rw [ax_cell_o G z.1 h100, ← ax_fs_r z.1 ci N h0]; exact e1
        have HK1 := ax_ok_set HK hc1 e1' e2 e3
        rw [ax_up_id I q] at HK1
        exact w H1 _ Ls cells slots HK1 hl (hS.put e2 e3 (HK.2.1 q)) hcc hss
      · cases ho
    · cases ho
  · cases ho
theorem sm_putRF {ci N k n idx : Nat} {C : String} {T : u_T} {ty : FieldType} (hd : decode cc pc = .ok (.putfield idx, 3)) (hw : Cond.fieldLink own idx C (T k).2.1 (T k).2.2.1 ∈ ax_tbl) (hin : ∀ w ∈ u_ws C T N, w ∈ ax_tbl) (ty0 : Nat → FieldType) (hty : ∀ k, k < N → parseFieldDescriptor (T k).2.2.1 = some (ty0 k)) (hnm : ∀ a, a < N → ∀ b, b < N → a ≠ b → (T a).2.1 ≠ (T b).2.1) (hc : vwCl[ci]? = some (C, T, N)) (hk : k < N) (h0 : ax_isr ci k = true) (hdc : (T k).1 = C) (h100 : ci < 100) (hfin : (T k).2.2.2 = true) (hini : ini = true) (hdo : (T k).1 = own) (hdp : parseFieldDescriptor (T k).2.2.1 = some ty) (hty9 : (∃ o, ty = .object o) ∨ ∃ t, ty = .array t) (hn : n = pc + 3) : ax_Sim ME ini own cc nL ret pc (a_putR ci N k n) := by
  subst hn
  intro E cal ls st h o ho
  obtain ⟨sh, I, RR⟩ := h
  simp only [a_putR] at ho
  split at ho
  · rename_i x q st1 sh1 I1 R1 he
    cases he
    split at ho
    · rename_i c1 hc1
      split at ho
      · rename_i e1
        subst e1
        cases ho
        refine ⟨fun _ => ⟨Nat.le_refl _, Nat.le_refl _⟩, fun p l e R s m args below meth c G base z Q h0' F hC _ _ _ _ w H locs Ls cells slots HK hl hS hcc hss => ?_⟩
        have hat := ax_ok_at HK hc1
        rw [ax_cell_o G z.1 h100] at hat
        refine ax_putWF F.1 F.2.1 F.2.2.2.2.1 hin ty0 hty hnm F.2.2.2.1 F.2.2.2.2.2.1 hat hc k hk (F.2.2.2.2.1 _ hw) (fun x hx => by rw [hdc] at hx; exact hx) hfin (F.2.2.2.2.2.2.2.1 hini) hdo hdp (by rcases hty9 with ⟨o, rfl⟩ | ⟨t, rfl⟩ <;> rfl) (by rcases hty9 with ⟨o, rfl⟩ | ⟨t, rfl⟩ <;> rfl) (by show k < (ax_fs _ _ _ _ _).length; rw [ax_fs_len]; exact hk) hd (fun H1 i e1 e2 e3 => ?_)
        have e1' : va_at G.1 vwCl (z.1 q, ax_cell G z.1 (ci, N) (I q) (va_up (RR q) k (some x))) H1 := by
          rw [ax_cell_o G z.1 h100, ← ax_fs_r z.1 ci N h0]; exact e1
        have HK1 := ax_ok_set HK hc1 e1' e2 e3
        rw [ax_up_id I q] at HK1
        exact w H1 _ Ls cells slots HK1 hl (hS.put e2 e3 (HK.2.1 q)) hcc hss
      · cases ho
    · cases ho
  · cases ho
theorem sm_iald {n : Nat} (hd : decode cc pc = .ok (.iaload, 1)) (hn : n = pc + 1) : ax_Sim ME ini own cc nL ret pc (a_iald n) := by
  subst hn
  refine sm_pure (fun E cal ls st h o ho => ?_)
  obtain ⟨sh, I, RR⟩ := h
  simp only [a_iald] at ho
  split at ho
  · rename_i i q st1 sh1 I1 R1 he
    cases he
    split at ho
    · rename_i c1 hc1
      split at ho
      · rename_i e1
        split at ho
        · cases ho
        · rename_i hin
          cases ho
          exact ⟨_, _, rfl, fun p l e R s m args below meth c G base z Q F H locs Ls cells slots hk hl hS w => va_iald F.1 F.2.1 F.2.2.2.2.2.1 hk.2.2.2.2 q 0 (by rw [ax_ws_get G z.1 (h := (sh, I, RR)) hc1, ax_cell_i G z.1 e1]) rfl hin hd w⟩
      · cases ho
    · cases ho
  · cases ho
theorem sm_cald {n : Nat} (hd : decode cc pc = .ok (.caload, 1)) (hn : n = pc + 1) : ax_Sim ME ini own cc nL ret pc (a_cald n) := by
  subst hn
  refine sm_pure (fun E cal ls st h o ho => ?_)
  obtain ⟨sh, I, RR⟩ := h
  simp only [a_cald] at ho
  split at ho
  · rename_i i q st1 sh1 I1 R1 he
    cases he
    split at ho
    · rename_i c1 hc1
      split at ho
      · rename_i e1
        split at ho
        · cases ho
        · rename_i hin
          cases ho
          exact ⟨_, _, rfl, fun p l e R s m args below meth c G base z Q F H locs Ls cells slots hk hl hS w => va_cald F.1 F.2.1 F.2.2.2.2.2.1 hk.2.2.2.2 q 1 (by rw [ax_ws_get G z.1 (h := (sh, I, RR)) hc1, ax_cell_c G z.1 e1]) rfl hin hd w⟩
      · cases ho
    · cases ho
  · cases ho
theorem sm_aald {n : Nat} (hd : decode cc pc = .ok (.aaload, 1)) (hn : n = pc + 1) : ax_Sim ME ini own cc nL ret pc (a_aald n) := by
  subst hn
  refine sm_pure (fun E cal ls st h o ho => ?_)
  obtain ⟨sh, I, RR⟩ := h
  simp only [a_aald] at ho
  split at ho
  · rename_i i q st1 sh1 I1 R1 he
    cases he
    split at ho
    · rename_i c1 hc1
      split at ho
      · rename_i e1
        split at ho
        · cases ho
        · rename_i hin
          split at ho
          · rename_i j hj
            cases ho
            exact ⟨_, _, rfl, fun p l e R s m args below meth c G base z Q F H locs Ls cells slots hk hl hS w => by
              refine va_aldq F.1 F.2.1 F.2.2.2.2.2.1 hk.2.2.2.2 q 2 (by rw [ax_ws_get G z.1 (h := (sh, I, RR)) hc1, ax_cell_r G z.1 e1]) rfl hin hd ?_
              rw [show (RR q i.toNatClampNeg).map z.1 = some (z.1 j) by rw [hj]; rfl]
              exact w⟩
          · cases ho
      · cases ho
    · cases ho
  · cases ho
theorem sm_sald {n : Nat} (hd : decode cc pc = .ok (.iaload, 1)) (hn : n = pc + 1) : ax_Sim ME ini own cc nL ret pc (a_sald n) := by
  subst hn
  refine sm_pure (fun E cal ls st h o ho => ?_)
  simp only [a_sald] at ho
  split at ho
  · rename_i i st1 h1 he
    cases he
    split at ho
    · cases ho
    · rename_i hin
      cases ho
      exact ⟨_, _, rfl, fun p l e R s m args below meth c G base z Q F H locs Ls cells slots hk hl hS w => by
        obtain ⟨x1, x2, x3, -⟩ := F.2.2.2.2.2.2.2.2.2
        exact va_sld (A := fun q => base ≤ q) F.1 F.2.1 x1 (Nat.lt_of_lt_of_le x2 x3) (Nat.not_le.mpr x2) hS hin hd w⟩
  · cases ho
theorem sm_slen {n : Nat} (hd : decode cc pc = .ok (.arraylength, 1)) (hn : n = pc + 1) : ax_Sim ME ini own cc nL ret pc (a_slen n) := by
  subst hn
  refine sm_pure (fun E cal ls st h o ho => ?_)
  simp only [a_slen] at ho
  split at ho
  · rename_i st1 h1 he
    cases he
    cases ho
    exact ⟨_, _, rfl, fun p l e R s m args below meth c G base z Q F H locs Ls cells slots hk hl hS w => by
        obtain ⟨x1, x2, x3, -⟩ := F.2.2.2.2.2.2.2.2.2
        exact va_slen (A := fun q => base ≤ q) F.1 F.2.1 x1 (Nat.lt_of_lt_of_le x2 x3) (Nat.not_le.mpr x2) hS hd w⟩
  · cases ho
theorem sm_iast {n : Nat} (hd : decode cc pc = .ok (.iastore, 1)) (hn : n = pc + 1) : ax_Sim ME ini own cc nL ret pc (a_iast n) := by
  subst hn
  intro E cal ls st h o ho
  obtain ⟨sh, I, RR⟩ := h
  simp only [a_iast] at ho
  split at ho
  · rename_i x i q st1 sh1 I1 R1 he
    cases he
    split at ho
    · rename_i c1 hc1
      split at ho
      · rename_i e1
        split at ho
        · cases ho
        · rename_i hin
          cases ho
          refine ⟨fun _ => ⟨Nat.le_refl _, Nat.le_refl _⟩, fun p l e R s m args below meth c G base z Q h0' F hC _ _ _ _ w H locs Ls cells slots HK hl hS hcc hss => ?_⟩
          have hat := ax_ok_at HK hc1
          rw [ax_cell_i G z.1 e1] at hat
          have hA : H[z.1 q]? = some (vp_cell _ (c1.2, .inl (I q))) := hat
          refine W.iast F.1 F.2.1 hA ((F.2.2.2.2.2.1.2 0 _ rfl).1 c1.2 (fun j => .int (I q j))) (fun q => by cases q) (by show ¬ (i < 0 ∨ (arrV _ _ _).slots.size ≤ _); rw [arrV_size]; exact hin) rfl rfl hd fun H1 e1' z1 oq => ?_
          have hat1 : va_at G.1 vwCl (z.1 q, ax_cell G z.1 c1 (upd (I q) i.toNatClampNeg x) (RR q)) H1 := by
            rw [ax_cell_i G z.1 e1]
            show H1[z.1 q]? = some (vp_cell _ _)
            rw [e1', vp_cell_i, vp_cell_i, arrV_store]
            congr 2
            funext q9
            by_cases hq : q9 = i.toNatClampNeg
            · subst hq
              simp [updV, upd]
            · simp [updV, upd, hq]
          have HK1 := ax_ok_set HK hc1 hat1 z1 oq
          rw [ax_up_id RR q] at HK1
          exact w H1 _ Ls cells slots HK1 hl (hS.put z1 oq (HK.2.1 q)) hcc hss
      · cases ho
    · cases ho
  · cases ho
theorem sm_cast {n : Nat} (hd : decode cc pc = .ok (.castore, 1)) (hn : n = pc + 1) : ax_Sim ME ini own cc nL ret pc (a_cast n) := by
  subst hn
  intro E cal ls st h o ho
  obtain ⟨sh, I, RR⟩ := h
  simp only [a_cast] at ho
  split at ho
  · rename_i x i q st1 sh1 I1 R1 he
    cases he
    split at ho
    · rename_i c1 hc1
      split at ho
      · rename_i e1
        split at ho
        · cases ho
        · rename_i hin
          cases ho
          refine ⟨fun _ => ⟨Nat.le_refl _, Nat.le_refl _⟩, fun p l e R s m args below meth c G base z Q h0' F hC _ _ _ _ w H locs Ls cells slots HK hl hS hcc hss => ?_⟩
          have hat := ax_ok_at HK hc1
          rw [ax_cell_c G z.1 e1] at hat
          have hA : H[z.1 q]? = some (vp_cell _ (c1.2, .inl (I q))) := hat
          refine W.cast F.1 F.2.1 hA ((F.2.2.2.2.2.1.2 1 _ rfl).1 c1.2 (fun j => .int (I q j))) (fun q => by cases q) (by show ¬ (i < 0 ∨ (arrV _ _ _).slots.size ≤ _); rw [arrV_size]; exact hin) rfl rfl hd fun H1 e1' z1 oq => ?_
          have hat1 : va_at G.1 vwCl (z.1 q, ax_cell G z.1 c1 (upd (I q) i.toNatClampNeg (vp_nar .char x)) (RR q)) H1 := by
            rw [ax_cell_c G z.1 e1]
            show H1[z.1 q]? = some (vp_cell _ _)
            rw [e1', vp_cell_i, vp_cell_i, arrV_store]
            congr 2
            funext q9
            by_cases hq : q9 = i.toNatClampNeg
            · subst hq
              simp [updV, upd, vp_nar]
              try rfl
            · simp [updV, upd, hq]
          have HK1 := ax_ok_set HK hc1 hat1 z1 oq
          rw [ax_up_id RR q] at HK1
          exact w H1 _ Ls cells slots HK1 hl (hS.put z1 oq (HK.2.1 q)) hcc hss
      · cases ho
    · cases ho
  · cases ho
end SM2
end
section
/-! SIMULATION: making, switches, returns, calls -/
theorem ax_slt_push (sh : List (Nat × Nat)) (c : Nat × Nat) (I I' : Nat → Nat → Int32) (R R' : Nat → Nat → Option Nat) : ax_slt (sh ++ [c], I', R') = ax_slt (sh, I, R) + c.2 := by
  simp [ax_slt]
theorem ax_ok_push {G : ax_G} {base : Nat} {rz : Nat → Nat} {sh : List (Nat × Nat)} {I : Nat → Nat → Int32} {R : Nat → Nat → Option Nat} {H H1 : Heap} {c : Nat × Nat} (hk : ax_ok G base rz (sh, I, R) H)
    (hat : va_at G.1 vwCl (H.size, ax_cell G rz c (fun _ => 0) (fun _ => none)) H1) (hz : H1.size = H.size + 1) (oq : ∀ a : Nat, a < H.size → H1[a]? = H[a]?) : ax_ok G base rz (sh ++ [c], va_up I sh.length (fun _ => 0), va_up R sh.length (fun _ => none)) H1 := by
  have hsz : H.size = base + sh.length := hk.1
  have hr : rz sh.length = H.size := by rw [hsz]; exact hk.2.2.2.1 sh.length (Nat.le_refl _)
  refine ⟨by rw [hz, hsz]; simp; omega, hk.2.1, hk.2.2.1, fun i hi => hk.2.2.2.1 i (by simp at hi; show sh.length ≤ i; omega), ?_⟩
  rw [ax_ws_push]
  refine va_P.app (hk.2.2.2.2.kept (fun k q hq => oq q.1 ((hk.2.2.2.2 k q hq).lt))) ?_
  intro k q hq
  have hz : k < 1 := (List.getElem?_eq_some_iff.mp hq).1
  rw [show k = 0 by omega] at hq
  cases hq
  rw [hr]
  exact hat
section SM3
variable {ME : Nat → Option ax_M} {ini : Bool} {own : String} {cc : ByteArray} {nL : Nat} {ret : Option FieldType} {pc : Nat}
theorem sm_new {ci N n idx : Nat} {C : String} {T : u_T} (hd : decode cc pc = .ok (.new idx, 3)) (hw : Cond.classLink own idx C ∈ ax_tbl) (hw2 : Cond.instantiable C N ∈ ax_tbl) (hw3 : Cond.initialized C ∈ ax_tbl) (hin : ∀ w ∈ u_ws C T N, w ∈ ax_tbl) (ty0 : Nat → FieldType) (hty : ∀ k, k < N → parseFieldDescriptor (T k).2.2.1 = some (ty0 k)) (hc : vwCl[ci]? = some (C, T, N)) (h100 : ci < 100)
    (hdf : ∀ j, j < N → defaultValue (ty0 j) = if ax_isr ci j = true then .null else .int 0) (hn : n = pc + 3) : ax_Sim ME ini own cc nL ret pc (a_new ci N n) := by
  subst hn
  intro E cal ls st h o ho
  obtain ⟨sh, I, RR⟩ := h
  cases ho
  refine ⟨fun _ => ⟨by simp, by rw [ax_slt_push sh (ci, N) I _ RR _]; omega⟩, fun p l e R s m args below meth c G base z Q h0 F hC hcl hsl hc0 hs0 w H locs Ls cells slots HK hl hS hcc hss => ?_⟩
  have hKn := F.2.2.2.2.2.1.1 ci _ hc
  rw [ax_slt_push sh (ci, N) I _ RR _] at hsl
  have hcc' : cells + h0.1.length = sh.length := hcc
  have hss' : slots + ax_slt h0 = ax_slt (sh, I, RR) := hss
  have hcl' : sh.length + 1 ≤ h0.1.length + R.cells := by simpa using hcl
  refine W.newcK F.1 F.2.1 F.2.2.2.1 (F.2.2.2.2.1 _ hw) (F.2.2.2.2.1 _ hw2) (F.2.2.2.2.1 _ hw3) rfl hd (by omega) (by show slots + N ≤ R.slots; have : ax_slt (sh, I, RR) + N ≤ ax_slt h0 + R.slots := hsl; omega) hKn.2.1 rfl fun H1 kC hkC e1 z1 o1 => ?_
  have hat : va_at G.1 vwCl (H.size, ax_cell G z.1 (ci, N) (fun _ => 0) (fun _ => none)) H1 := by
    rw [ax_cell_o G z.1 h100]
    refine ⟨_, hc, (u_born ty0 F.2.2.2.2.1 hin hKn hkC e1 hty).to (fun j hj => ?_)⟩
    rw [hdf j hj]
    show _ = (ax_fs z.1 ci N (fun _ => 0) (fun _ => none)).getD j .null
    rw [List.getD_eq_getElem?_getD, ax_fs_at z.1 ci hj]
    by_cases q : ax_isr ci j = true
    · rw [if_pos q, if_pos q]; rfl
    · rw [if_neg q, if_neg q]; rfl
  have HK1 := ax_ok_push HK hat z1 o1
  have hr : z.1 sh.length = H.size := by rw [HK.1]; exact HK.2.2.2.1 sh.length (Nat.le_refl _)
  have w1 := w H1 locs Ls (cells + 1) (slots + N) HK1 hl ⟨Nat.le_trans hS.1 (by omega), fun q g1 g2 => (o1 q (Nat.lt_of_lt_of_le g1 hS.1)).trans (hS.2.1 q g1 g2), hS.2.2⟩ (by simp; omega) (by rw [ax_slt_push sh (ci, N) I _ RR _]; show slots + N + ax_slt h0 = ax_slt (sh, I, RR) + N; omega)
  rw [← hr]
  exact w1

theorem sm_newai {N n : Nat} (hd : decode cc pc = .ok (.newarray .int, 2)) (hw : Cond.arrayClass .int ∈ ax_tbl) (hN : N ≤ 1000) (hn : n = pc + 2) : ax_Sim ME ini own cc nL ret pc (a_newa 100 N n) := by
  subst hn
  intro E cal ls st h o ho
  obtain ⟨sh, I, RR⟩ := h
  simp only [a_newa] at ho
  split at ho
  · rename_i x st1 sh1 I1 R1 he
    cases he
    split at ho
    · rename_i hx
      cases ho
      subst hx
      refine ⟨fun _ => ⟨by simp, by rw [ax_slt_push sh (100, N) I _ RR _]; omega⟩, fun p l e R s m args below meth c G base z Q h0 F hC hcl hsl hc0 hs0 w H locs Ls cells slots HK hl hS hcc hss => ?_⟩
      rw [ax_slt_push sh (100, N) I _ RR _] at hsl
      have hcc' : cells + h0.1.length = sh.length := hcc
      have hss' : slots + ax_slt h0 = ax_slt (sh, I, RR) := hss
      have hcl' : sh.length + 1 ≤ h0.1.length + R.cells := by simpa using hcl
      have hsl' : ax_slt (sh, I, RR) + N ≤ ax_slt h0 + R.slots := hsl
      have hN2 : N < 2 ^ 31 := by omega
      refine va_newaK (atype := .int) F.1 F.2.1 (F.2.2.2.2.1 _ hw) rfl hd rfl (nI_pos hN2) (nI_clamp hN2) (by show N * componentBytes .int ≤ _; simp [componentBytes]; omega) (by omega) (by omega) rfl fun H1 cA e1 z1 o1 hAr hNm => ?_
      have hcA : cA = G.2.1 := Option.some.inj (hNm.symm.trans (va_nm_int (F.2.2.2.2.2.1.2 0 _ rfl).2))
      subst hcA
      have hat : va_at G.1 vwCl (H.size, ax_cell G z.1 (100, N) (fun _ => 0) (fun _ => none)) H1 := by
        rw [ax_cell_i G z.1 rfl]
        exact e1
      have HK1 := ax_ok_push HK hat z1 o1
      have hr : z.1 sh.length = H.size := by rw [HK.1]; exact HK.2.2.2.1 sh.length (Nat.le_refl _)
      have w1 := w H1 locs Ls (cells + 1) (slots + N) HK1 hl ⟨Nat.le_trans hS.1 (by omega), fun q g1 g2 => (o1 q (Nat.lt_of_lt_of_le g1 hS.1)).trans (hS.2.1 q g1 g2), hS.2.2⟩ (by simp; omega) (by rw [ax_slt_push sh (100, N) I _ RR _]; show slots + N + ax_slt h0 = ax_slt (sh, I, RR) + N; omega)
      rw [← hr]
      exact w1
    · cases ho
  · cases ho
theorem sm_newac {N n : Nat} (hd : decode cc pc = .ok (.newarray .char, 2)) (hw : Cond.arrayClass .char ∈ ax_tbl) (hN : N ≤ 1000) (hn : n = pc + 2) : ax_Sim ME ini own cc nL ret pc (a_newa 101 N n) := by
  subst hn
  intro E cal ls st h o ho
  obtain ⟨sh, I, RR⟩ := h
  simp only [a_newa] at ho
  split at ho
  · rename_i x st1 sh1 I1 R1 he
    cases he
    split at ho
    · rename_i hx
      cases ho
      subst hx
      refine ⟨fun _ => ⟨by simp, by rw [ax_slt_push sh (101, N) I _ RR _]; omega⟩, fun p l e R s m args below meth c G base z Q h0 F hC hcl hsl hc0 hs0 w H locs Ls cells slots HK hl hS hcc hss => ?_⟩
      rw [ax_slt_push sh (101, N) I _ RR _] at hsl
      have hcc' : cells + h0.1.length = sh.length := hcc
      have hss' : slots + ax_slt h0 = ax_slt (sh, I, RR) := hss
      have hcl' : sh.length + 1 ≤ h0.1.length + R.cells := by simpa using hcl
      have hsl' : ax_slt (sh, I, RR) + N ≤ ax_slt h0 + R.slots := hsl
      have hN2 : N < 2 ^ 31 := by omega
      refine va_newaK (atype := .char) F.1 F.2.1 (F.2.2.2.2.1 _ hw) rfl hd rfl (nI_pos hN2) (nI_clamp hN2) (by show N * componentBytes .char ≤ _; simp [componentBytes]; omega) (by omega) (by omega) rfl fun H1 cA e1 z1 o1 hAr hNm => ?_
      have hcA : cA = G.2.2.1 := Option.some.inj (hNm.symm.trans (va_nm_char (F.2.2.2.2.2.1.2 1 _ rfl).2))
      subst hcA
      have hat : va_at G.1 vwCl (H.size, ax_cell G z.1 (101, N) (fun _ => 0) (fun _ => none)) H1 := by
        rw [ax_cell_c G z.1 rfl]
        exact e1
      have HK1 := ax_ok_push HK hat z1 o1
      have hr : z.1 sh.length = H.size := by rw [HK.1]; exact HK.2.2.2.1 sh.length (Nat.le_refl _)
      have w1 := w H1 locs Ls (cells + 1) (slots + N) HK1 hl ⟨Nat.le_trans hS.1 (by omega), fun q g1 g2 => (o1 q (Nat.lt_of_lt_of_le g1 hS.1)).trans (hS.2.1 q g1 g2), hS.2.2⟩ (by simp; omega) (by rw [ax_slt_push sh (101, N) I _ RR _]; show slots + N + ax_slt h0 = ax_slt (sh, I, RR) + N; omega)
      rw [← hr]
      exact w1
    · cases ho
  · cases ho
theorem sm_newq {N n idx : Nat} (hd : decode cc pc = .ok (.anewarray idx, 3)) (hw : Cond.classLink own idx "ShadowTailor$State" ∈ ax_tbl) (hw2 : Cond.arrayOver (.object "ShadowTailor$State") ∈ ax_tbl) (hN : N ≤ 1000) (hn : n = pc + 3) : ax_Sim ME ini own cc nL ret pc (a_newa 102 N n) := by
  subst hn
  intro E cal ls st h o ho
  obtain ⟨sh, I, RR⟩ := h
  simp only [a_newa] at ho
  split at ho
  · rename_i x st1 sh1 I1 R1 he
    cases he
    split at ho
    · rename_i hx
      cases ho
      subst hx
      refine ⟨fun _ => ⟨by simp, by rw [ax_slt_push sh (102, N) I _ RR _]; omega⟩, fun p l e R s m args below meth c G base z Q h0 F hC hcl hsl hc0 hs0 w H locs Ls cells slots HK hl hS hcc hss => ?_⟩
      rw [ax_slt_push sh (102, N) I _ RR _] at hsl
      have hcc' : cells + h0.1.length = sh.length := hcc
      have hss' : slots + ax_slt h0 = ax_slt (sh, I, RR) := hss
      have hcl' : sh.length + 1 ≤ h0.1.length + R.cells := by simpa using hcl
      have hsl' : ax_slt (sh, I, RR) + N ≤ ax_slt h0 + R.slots := hsl
      have hN2 : N < 2 ^ 31 := by omega
      have hcl9 : (Int32.ofNat N).toNatClampNeg = N := nI_clamp hN2
      refine W.anew F.1 F.2.1 F.2.2.2.1 (F.2.2.2.2.1 _ hw) (F.2.2.2.2.1 _ hw2) rfl hd rfl (nI_pos hN2) (by rw [hcl9]; omega) (by omega) (by rw [hcl9]; omega) fun cA kA comp f1 f2 f3 f4 => ?_
      rw [hcl9]
      generalize hH1 : H.push ({ cls := cA, slots := Array.replicate N .null, vm := .none } : Cell) = H1
      have z1 : H1.size = H.size + 1 := by rw [← hH1, Array.size_push]
      have e1 : H1[H.size]? = some (arrV cA N (fun _ => .null)) := by rw [← hH1, Array.getElem?_push_size, ← arrV_new]
      have o1 : ∀ q : Nat, q < H.size → H1[q]? = H[q]? := fun q hq => by rw [← hH1, Array.getElem?_push, if_neg (Nat.ne_of_lt hq)]
      obtain ⟨kA2, comp2, g1, g2, g3, g4⟩ := (F.2.2.2.2.2.1.2 2 _ rfl).2
      have hcA : cA = G.2.2.2 := Option.some.inj (f1.symm.trans g4)
      subst hcA
      have hat : va_at G.1 vwCl (H.size, ax_cell G z.1 (102, N) (fun _ => 0) (fun _ => none)) H1 := by
        rw [ax_cell_r G z.1 rfl]
        exact e1
      have HK1 := ax_ok_push HK hat z1 o1
      have hr : z.1 sh.length = H.size := by rw [HK.1]; exact HK.2.2.2.1 sh.length (Nat.le_refl _)
      have w1 := w H1 locs Ls (cells + 1) (slots + N) HK1 hl ⟨Nat.le_trans hS.1 (by omega), fun q g1 g2 => (o1 q (Nat.lt_of_lt_of_le g1 hS.1)).trans (hS.2.1 q g1 g2), hS.2.2⟩ (by simp; omega) (by rw [ax_slt_push sh (102, N) I _ RR _]; show slots + N + ax_slt h0 = ax_slt (sh, I, RR) + N; omega)
      rw [← hr]
      exact w1
    · cases ho
  · cases ho
theorem sm_aast {n : Nat} (hd : decode cc pc = .ok (.aastore, 1)) (hn : n = pc + 1) : ax_Sim ME ini own cc nL ret pc (a_aast n) := by
  subst hn
  intro E cal ls st h o ho
  obtain ⟨sh, I, RR⟩ := h
  simp only [a_aast] at ho
  split at ho
  · rename_i x i q st1 sh1 I1 R1 he
    cases he
    split at ho
    · rename_i c1 hc1
      split at ho
      · rename_i e1
        obtain ⟨e1, hx5⟩ := e1
        split at ho
        · cases ho
        · rename_i hin
          cases ho
          refine ⟨fun _ => ⟨Nat.le_refl _, Nat.le_refl _⟩, fun p l e R s m args below meth c G base z Q h0 F hC _ _ _ _ w H locs Ls cells slots HK hl hS hcc hss => ?_⟩
          have hat := ax_ok_at HK hc1
          rw [ax_cell_r G z.1 e1] at hat
          have hA : H[z.1 q]? = some (vp_cell _ (c1.2, .inr (.inr (.inr (.inr (fun j => (RR q j).map z.1)))))) := hat
          have hlt : i.toNatClampNeg < c1.2 := Nat.not_le.mp fun q => hin (Or.inr q)
          have hi0 : ¬ i < 0 := fun q => hin (Or.inl q)
          have hatv := ax_ok_at HK hx5
          rw [ax_cell_o G z.1 (by decide : (5 : Nat) < 100)] at hatv
          obtain ⟨r', hr', cellV, g1, g2, g3, -⟩ := hatv
          have hcls := (F.2.2.2.2.2.1.1 5 _ rfl).2
          obtain ⟨kA, comp, k1, k2, k3, -⟩ := (F.2.2.2.2.2.1.2 2 _ rfl).2
          have hcomp : comp = G.1.1 5 := Option.some.inj (k3.symm.trans hcls.1)
          subst hcomp
          obtain ⟨kC, hkC, -⟩ := hcls.2
          refine W.aast F.1 F.2.1 hA (fun q h => by cases h) (fun h => by cases h) k1 k2 rfl hkC ⟨hi0, by show _ < (arrV _ _ _).slots.size; rw [arrV_size]; exact hlt⟩ g1 (fun q h => by rw [g3] at h; cases h) (by rw [g2]; exact hkC) (by rw [g2]; exact va_assign hcls) rfl rfl hd fun H1 e1' z1 oq => ?_
          have hat1 : va_at G.1 vwCl (z.1 q, ax_cell G z.1 c1 (I q) (va_up (RR q) i.toNatClampNeg (some x))) H1 := by
            rw [ax_cell_r G z.1 e1]
            show H1[z.1 q]? = some (vp_cell _ _)
            rw [e1', vp_cell_q, vp_cell_q, arrV_store]
            congr 2
            funext q9
            by_cases hq : q9 = i.toNatClampNeg
            · subst hq
              simp [updV, va_up, va_rf]
            · simp [updV, va_up, hq]
          have HK1 := ax_ok_set HK hc1 hat1 z1 oq
          rw [ax_up_id I q] at HK1
          exact w H1 _ Ls cells slots HK1 hl (hS.put z1 oq (HK.2.1 q)) hcc hss
      · cases ho
    · cases ho
  · cases ho
theorem sm_tsw {lo hi dflt : Int} {offs : Array Int} {len : Nat} {ts : List Nat} {d : Nat} (hd : decode cc pc = .ok (.tableswitch dflt lo hi offs, len)) (hdf : (pc : Int) + dflt = (d : Int)) (hof : offs.toList = ts.map (fun t : Nat => (t : Int) - (pc : Int))) (hln : hi - lo + 1 = (ts.length : Int)) : ax_Sim ME ini own cc nL ret pc (a_tsw lo hi ts d) := by
  refine sm_pure (fun E cal ls st h o ho => ?_)
  simp only [a_tsw] at ho
  split at ho
  · rename_i x st1 h1 he
    cases he
    cases ho
    refine ⟨_, _, rfl, fun p l e R s m args below meth c G base z Q F H locs Ls cells slots hk hl hS w => ?_⟩
    by_cases hx : x.toInt < lo ∨ hi < x.toInt
    · rw [ax_sw, if_pos hx] at w
      exact lv_tableOut F.1 F.2.1 hd hx hdf w
    · have h1 : ¬ x.toInt < lo := fun q => hx (Or.inl q)
      have h2 : ¬ hi < x.toInt := fun q => hx (Or.inr q)
      have hk9 : (x.toInt - lo).toNat < ts.length := by omega
      rw [ax_sw, if_neg hx, ax_nth_eq, List.getElem?_eq_getElem hk9] at w
      refine lv_tableIn F.1 F.2.1 hd h1 h2 (off := (ts[(x.toInt - lo).toNat] : Int) - (pc : Int)) ?_ (tgt := ts[(x.toInt - lo).toNat]) (by omega) w
      rw [← Array.getElem?_toList, hof, List.getElem?_map, List.getElem?_eq_getElem hk9]
      rfl
  · cases ho
-- returns
theorem sm_iret (hd : decode cc pc = .ok (.ireturn, 1)) (hr : ret = some .int) : ax_Sim ME ini own cc nL ret pc a_iret := by
  intro E cal ls st h o ho
  simp only [a_iret] at ho
  split at ho
  · rename_i x h1 he
    cases he
    cases ho
    exact ⟨fun _ => rfl, fun p l e R s m args below meth c G base z Q h0 F hC k H locs Ls cells slots hk hl hS hc hs => k pc H locs Ls cells slots hk hS hc hs ⟨hd, _, hr, rfl⟩⟩
  · cases ho
theorem sm_zret (hd : decode cc pc = .ok (.ireturn, 1)) (hr : ret = some .boolean) : ax_Sim ME ini own cc nL ret pc a_zret := by
  intro E cal ls st h o ho
  simp only [a_zret] at ho
  split at ho
  · rename_i x h1 he
    cases he
    split at ho
    · rename_i hx
      cases ho
      exact ⟨fun _ => rfl, fun p l e R s m args below meth c G base z Q h0 F hC k H locs Ls cells slots hk hl hS hc hs => k pc H locs Ls cells slots hk hS hc hs ⟨hd, _, hr, by rcases hx with rfl | rfl <;> rfl⟩⟩
    · cases ho
  · cases ho
theorem ax_nar_char {x : Int32} (h : vp_nar .char x = x) : narrow .char (.int x) = .int x := by
  have e : narrow .char (.int x) = .int (vp_nar .char x) := rfl
  rw [e, h]
theorem sm_cret (hd : decode cc pc = .ok (.ireturn, 1)) (hr : ret = some .char) : ax_Sim ME ini own cc nL ret pc a_cret := by
  intro E cal ls st h o ho
  simp only [a_cret] at ho
  split at ho
  · rename_i x h1 he
    cases he
    split at ho
    · rename_i hx
      cases ho
      exact ⟨fun _ => rfl, fun p l e R s m args below meth c G base z Q h0 F hC k H locs Ls cells slots hk hl hS hc hs => k pc H locs Ls cells slots hk hS hc hs ⟨hd, _, hr, ax_nar_char hx⟩⟩
    · cases ho
  · cases ho
theorem sm_lret (hd : decode cc pc = .ok (.lreturn, 1)) (hr : ret = some .long) : ax_Sim ME ini own cc nL ret pc a_lret := by
  intro E cal ls st h o ho
  simp only [a_lret] at ho
  split at ho
  · rename_i x h1 he
    cases he
    cases ho
    exact ⟨fun _ => rfl, fun p l e R s m args below meth c G base z Q h0 F hC k H locs Ls cells slots hk hl hS hc hs => k pc H locs Ls cells slots hk hS hc hs ⟨hd, hr⟩⟩
  · cases ho
theorem sm_aret {ty : FieldType} (hd : decode cc pc = .ok (.areturn, 1)) (hr : ret = some (.array ty)) : ax_Sim ME ini own cc nL ret pc a_aret := by
  intro E cal ls st h o ho
  simp only [a_aret] at ho
  split at ho
  · rename_i x h1 he
    cases he
    cases ho
    exact ⟨fun _ => rfl, fun p l e R s m args below meth c G base z Q h0 F hC k H locs Ls cells slots hk hl hS hc hs => k pc H locs Ls cells slots hk hS hc hs ⟨hd, _, hr, Or.inr ⟨_, rfl⟩⟩⟩
  · cases ho
theorem sm_vret (hd : decode cc pc = .ok (.return_, 1)) (hr : ret = none) : ax_Sim ME ini own cc nL ret pc a_vret := by
  intro E cal ls st h o ho
  simp only [a_vret] at ho
  split at ho
  · rename_i h1 he
    cases he
    cases ho
    exact ⟨fun _ => rfl, fun p l e R s m args below meth c G base z Q h0 F hC k H locs Ls cells slots hk hl hS hc hs => k pc H locs Ls cells slots hk hS hc hs ⟨hd, hr⟩⟩
  · cases ho
theorem sm_oinit {n idx : Nat} (hd : decode cc pc = .ok (.invokespecial idx, 3)) (hw : Cond.methodLink own idx Lib.objectInit ∈ ax_tbl) (hw2 : Cond.instanceMethod Lib.objectInit ∈ ax_tbl) (hw3 : Cond.code Lib.objectInit ⟨#[0xb1]⟩ 1 none ∈ ax_tbl) (hn : n = pc + 3) : ax_Sim ME ini own cc nL ret pc (a_oinit n) := by
  subst hn
  refine sm_pure (fun E cal ls st h o ho => ?_)
  simp only [a_oinit] at ho
  split at ho
  · rename_i q st1 h1 he
    cases he
    split at ho
    · rename_i hc8
      cases ho
      refine ⟨_, _, rfl, fun p l e R s m args below meth c G base z Q F H locs Ls cells slots hk hl hS w => ?_⟩
      refine W.objInit F.1 F.2.1 F.2.2.2.1 (F.2.2.2.2.1 _ hw) (F.2.2.2.2.1 _ hw2) (F.2.2.2.2.1 _ hw3) rfl (by rw [F.2.2.1]; exact hl.2.1.1) rfl hd F.2.2.2.2.2.2.1.1 ?_ w
      rw [ax_cats_map]
      have := F.2.2.2.2.2.2.1.2
      show 2 * 0 + _ + 12 ≤ _
      omega
    · cases ho
  · cases ho
end SM3
end
section
/-! SIMULATION: arraycopy, calls -/
theorem ax_goodm {mt : ax_M} (h : Cond.code mt.1 mt.2.1 mt.2.2.1 mt.2.2.2 ∈ ax_tbl) : GoodIn ax_tbl (ax_wsm mt) := fun w hw => by
  rw [List.mem_singleton.mp hw]
  exact ⟨h, Or.inl rfl⟩
theorem ax_warm_of {s U : State} (hv : U.vm = s.vm) : s.WarmedH U.vm := by rw [hv]; exact State.WarmedH.refl s
theorem ax_X.same {E : ax_E} {base : Nat} {z : ax_Z} {s U : State} (hv : U.vm = s.vm) (hh : U.heap = s.heap) (h : ax_X E base z s) : ax_X E base z U := by
  obtain ⟨h1, h2, h3, adV, g1, g2, g3, g4⟩ := h
  have ha : s.vm.Alike U.vm := by rw [hv]; exact Vm.Alike.refl _
  refine ⟨by rw [hh]; exact h1.moved ha, h2, by rw [hh]; exact h3, adV, g1.same hv, by rw [hh]; exact g2.moved ha, by rw [hh]; exact g3.moved ha, by rw [hh]; exact g4.moved ha⟩
theorem ax_blind (G : ax_G) (base : Nat) (z : ax_Z) (E : ax_E) (as : List Value) (h : ax_H) : FrameBlind (ax_Pc G base z E as h) := fun a U g mk q => ⟨q.1, q.2.1, va_K.moved (u := U) (U := U.calling g mk a) (Vm.Alike.refl U.vm) q.2.2.1, ax_X.same (s := U) (U := U.calling g mk a) rfl rfl q.2.2.2.1, fun w hw => ax_N.warm (s := U) (U := U.calling g mk a) (ax_warm_of rfl) q.2.2.2.2 w hw _⟩
/-- what the callee finds -/
theorem ax_pre {own : String} {cc : ByteArray} {nL : Nat} {ini : Bool} {ret : Option FieldType} {p : Program} {R : Room} {s : State} {m : MethodId} {args : Array Value} {meth : Method} {c : Code} {G : ax_G} {base : Nat} {z : ax_Z} {E : ax_E} {H : Heap} {locs : List Loc} {h : ax_H} {as : List Value}
    (F : ax_Fr ini own cc nL ret p R s m args meth c G base z E) (HK : ax_ok G base z.1 h H) (hS : va_S (fun q => base ≤ q) s.heap H locs) : ∀ U : State, U.heap = H → s.WarmedH U.vm → ax_Pc G base z E as h (as.map (ax_rv z)).toArray U := by
  intro U hU hW
  refine ⟨rfl, by rw [hU]; exact HK, va_K.moved hW.alike F.2.2.2.2.2.1, ax_X.moved hW (by rw [hU, HK.1]; omega) (fun a ha => ?_) F.2.2.2.2.2.2.2.2.2, fun w hw => ax_N.warm hW F.2.2.2.2.1 w hw _⟩
  have hb := F.2.2.2.2.2.2.2.2.2.2.2.1
  rw [hU]
  exact hS.2.1 a (by omega) (by show ¬ base ≤ a; omega)
theorem ax_runW {nL : Nat} {p : Program} {l : Launch} {e : Env} {R : Room} {s : State} {m : MethodId} {args : Array Value} {below : List Frame} {meth : Method} {c : Code} {G : ax_G} {base : Nat} {z : ax_Z} {Q : State → Prop} {h0 h' : ax_H} {H : Heap} {locs : List Loc} {cells slots mc ms pc : Nat} {Ls : Array Slot} {st0 rest : List Value} {ls : List Value} {r : Option Value} {a9 : Array Value}
    (hr : va_Run p l e R s m args below meth c H locs cells slots mc ms (F0 m pc Ls st0) (rest.map (ax_rv z)) (ax_Qc G base z r h' a9) (fun q => base ≤ q)) (hb : base ≤ s.heap.size) (hl : ax_loc z nL Ls ls) (hS : va_S (fun q => base ≤ q) s.heap H locs) (hc : cells + mc + h0.1.length = h'.1.length) (hs : slots + ms + ax_slt h0 = ax_slt h')
    (w : ax_Wt nL p l e R s m args below meth c G base z Q h0 (pc + 3, ls, r.toList ++ rest, h')) : W p l e R s m args below meth c H locs cells slots Q (F0 m pc Ls st0) := by
  intro T hT X
  obtain ⟨v, st₀, t, T', L, g0, X', hL, e1, e2, ⟨hv, hok, hz, hk⟩, st⟩ := hr T hT X
  have hv : v = r.map (ax_rv z) := Outcome.returned.inj hv
  subst hv
  rw [g0] at hz hk
  obtain ⟨t2, a1, b1⟩ := w T'.heap (locs ++ L) Ls (cells + mc) (slots + ms) (by rw [e1]; exact hok) hl ⟨Nat.le_trans hS.1 (by rw [e1]; exact hz), fun q g1 g2 => by rw [e1, hk q (Nat.lt_of_lt_of_le g1 hS.1) g2]; exact hS.2.1 q g1 g2, fun q hq => by
      rcases List.mem_append.mp hq with g | g
      · exact hS.2.2 q g
      · exact hL q g⟩ hc hs T' rfl X'
  refine ⟨t2, st t2 ?_, b1⟩
  have e9 : (r.map (ax_rv z)).toList ++ rest.map (ax_rv z) = (r.toList ++ rest).map (ax_rv z) := by
    cases r <;> simp
  show Steps _ _ _ (T'.setTop { F0 m pc Ls st0 with pc := pc + 3, stack := (r.map (ax_rv z)).toList ++ rest.map (ax_rv z) }) t2
  rw [e9]
  exact a1
theorem ax_split {st : List Value} {k : Nat} {v : Value} (h : ax_nth st k = some v) : st = st.take k ++ v :: st.drop (k + 1) ∧ (st.take (k + 1)).reverse = v :: (st.take k).reverse ∧ (st.take k).length = k := by
  rw [ax_nth_eq] at h
  obtain ⟨hk, e⟩ := List.getElem?_eq_some_iff.mp h
  refine ⟨?_, ?_, by rw [List.length_take]; omega⟩
  · conv => lhs; rw [← List.take_append_drop k st]
    rw [List.drop_eq_getElem_cons hk, e]
  · rw [List.take_succ_eq_append_getElem hk, e]; simp
section SC
variable {ME : Nat → Option ax_M} {ini : Bool} {own : String} {cc : ByteArray} {nL : Nat} {ret : Option FieldType} {pc : Nat}
theorem sm_callS {y k n idx : Nat} {mt : ax_M} (hd : decode cc pc = .ok (.invokestatic idx, 3)) (hm : ME y = some mt) (hw : Cond.methodLink own idx mt.1 ∈ ax_tbl) (hw2 : Cond.static mt.1 ∈ ax_tbl) (hw3 : Cond.initialized mt.1.cls ∈ ax_tbl) (hw4 : Cond.code mt.1 mt.2.1 mt.2.2.1 mt.2.2.2 ∈ ax_tbl)
    (hdd : mt.1.cls ≠ "java/lang/invoke/MethodHandle" ∧ mt.1.cls ≠ "java/lang/invoke/VarHandle" ∧ (parseMethodDescriptor mt.1.desc).map (fun d => d.parameters.length) = some k) (hn : n = pc + 3) : ax_Sim ME ini own cc nL ret pc (a_callS y k n) := by
  subst hn
  intro E cal ls st h o ho
  simp only [a_callS] at ho
  split at ho
  · rename_i hk8
    obtain ⟨hk, h8⟩ := hk8
    cases hcal : cal y (st.take k).reverse h with
    | none => rw [hcal] at ho; cases ho
    | some q =>
      rw [hcal] at ho
      cases ho
      obtain ⟨r, h'⟩ := q
      refine ⟨fun hM0 => hM0 y _ h r h' hcal, fun p l e R s m args below meth c G base z Q h0 F hC hcl hsl hc0 hs0 w H locs Ls cells slots HK hl hS hcc hss => ?_⟩
      obtain ⟨hmono, hMet⟩ := hC y mt hm _ h r h' hcal
      obtain ⟨rm, r1, r2, r3, hM⟩ := hMet G base z
      have hcc' : cells + h0.1.length = h.1.length := hcc
      have hss' : slots + ax_slt h0 = ax_slt h := hss
      have hcl' : h'.1.length ≤ h0.1.length + R.cells := hcl
      have hsl' : ax_slt h' ≤ ax_slt h0 + R.slots := hsl
      have hrun := va_runS (As := (st.take k).reverse.map (ax_rv z)) (rest := (st.drop k).map (ax_rv z)) (g := F0 m pc Ls (st.map (ax_rv z))) (n := k) (nL := nL) ⟨F.1, F.2.1, F.2.2.1, F.2.2.2.1, F.2.2.2.2.1⟩ hM ⟨callB_of k F.2.2.2.2.1 (ax_goodm hw4) rfl r1 r2 (F.2.2.2.2.1 _ hw3) (F.2.2.2.2.1 _ hw) hdd r3, F.2.2.2.2.1 _ hw2⟩ ⟨ax_blind _ _ _ _ _ _, ax_pre F HK hS⟩ (locs := locs) (cells := cells) (slots := slots) (e := e) (below := below) (meth := meth)
        rfl (by simp; omega) hl.2.1.1 (by show st.map (ax_rv z) = _; rw [← List.map_reverse, List.reverse_reverse, ← List.map_append, List.take_append_drop]) (by rw [ax_cats_map]; show 2 * 0 + _ ≤ 8; omega) hd (by omega)
      exact ax_runW hrun F.2.2.2.2.2.2.2.2.2.2.2.1 hl hS (by omega) (by omega) w
  · cases ho
theorem sm_callSN {y k n idx : Nat} {host : String} {mt : ax_M} (hd : decode cc pc = .ok (.invokestatic idx, 3)) (hm : ME y = some mt) (hw : Cond.methodLinkNest own idx mt.1 host ∈ ax_tbl) (hw2 : Cond.static mt.1 ∈ ax_tbl) (hw3 : Cond.initialized mt.1.cls ∈ ax_tbl) (hw4 : Cond.code mt.1 mt.2.1 mt.2.2.1 mt.2.2.2 ∈ ax_tbl)
    (hdd : mt.1.cls ≠ "java/lang/invoke/MethodHandle" ∧ mt.1.cls ≠ "java/lang/invoke/VarHandle" ∧ (parseMethodDescriptor mt.1.desc).map (fun d => d.parameters.length) = some k) (hn : n = pc + 3) : ax_Sim ME ini own cc nL ret pc (a_callS y k n) := by
  subst hn
  intro E cal ls st h o ho
  simp only [a_callS] at ho
  split at ho
  · rename_i hk8
    obtain ⟨hk, h8⟩ := hk8
    cases hcal : cal y (st.take k).reverse h with
    | none => rw [hcal] at ho; cases ho
    | some q =>
      rw [hcal] at ho
      cases ho
      obtain ⟨r, h'⟩ := q
      refine ⟨fun hM0 => hM0 y _ h r h' hcal, fun p l e R s m args below meth c G base z Q h0 F hC hcl hsl hc0 hs0 w H locs Ls cells slots HK hl hS hcc hss => ?_⟩
      obtain ⟨hmono, hMet⟩ := hC y mt hm _ h r h' hcal
      obtain ⟨rm, r1, r2, r3, hM⟩ := hMet G base z
      have hcc' : cells + h0.1.length = h.1.length := hcc
      have hss' : slots + ax_slt h0 = ax_slt h := hss
      have hcl' : h'.1.length ≤ h0.1.length + R.cells := hcl
      have hsl' : ax_slt h' ≤ ax_slt h0 + R.slots := hsl
      have hrun := va_runSN (As := (st.take k).reverse.map (ax_rv z)) (rest := (st.drop k).map (ax_rv z)) (g := F0 m pc Ls (st.map (ax_rv z))) (n := k) (nL := nL) ⟨F.1, F.2.1, F.2.2.1, F.2.2.2.1, F.2.2.2.2.1⟩ hM ⟨va_cnB k F.2.2.2.2.1 (ax_goodm hw4) rfl r1 r2 (va_any rfl (F.2.2.2.2.1 _ hw)) (F.2.2.2.2.1 _ hw3) hdd r3, F.2.2.2.2.1 _ hw2, trivial⟩ ⟨ax_blind _ _ _ _ _ _, ax_pre F HK hS⟩ (locs := locs) (cells := cells) (slots := slots) (e := e) (below := below) (meth := meth)
        rfl (by simp; omega) hl.2.1.1 (by show st.map (ax_rv z) = _; rw [← List.map_reverse, List.reverse_reverse, ← List.map_append, List.take_append_drop]) (by rw [ax_cats_map]; show 2 * 0 + _ ≤ 8; omega) hd (by omega)
      exact ax_runW hrun F.2.2.2.2.2.2.2.2.2.2.2.1 hl hS (by omega) (by omega) w
  · cases ho
theorem sm_callV {ci N y k n idx : Nat} {C : String} {T : u_T} {mt : ax_M} (hd : decode cc pc = .ok (.invokevirtual idx, 3)) (hm : ME y = some mt) (hc : vwCl[ci]? = some (C, T, N)) (h100 : ci < 100) (hw : Cond.methodLink own idx mt.1 ∈ ax_tbl) (hw2 : Cond.instanceMethod mt.1 ∈ ax_tbl) (hw3 : Cond.initialized mt.1.cls ∈ ax_tbl) (hw4 : Cond.code mt.1 mt.2.1 mt.2.2.1 mt.2.2.2 ∈ ax_tbl) (hw5 : Cond.selects C mt.1 mt.1 ∈ ax_tbl)
    (hdd : mt.1.cls ≠ "java/lang/invoke/MethodHandle" ∧ mt.1.cls ≠ "java/lang/invoke/VarHandle" ∧ (parseMethodDescriptor mt.1.desc).map (fun d => d.parameters.length) = some k) (hn : n = pc + 3) : ax_Sim ME ini own cc nL ret pc (a_callV ci N y k n) := by
  subst hn
  intro E cal ls st h o ho
  simp only [a_callV] at ho
  split at ho
  · rename_i q hq
    split at ho
    · rename_i hk8
      obtain ⟨hk, h8⟩ := hk8
      obtain ⟨f1, f2, f3⟩ := ax_split hq
      cases hcal : cal y (st.take (k + 1)).reverse h with
      | none => rw [hcal] at ho; cases ho
      | some q9 =>
        rw [hcal] at ho
        cases ho
        obtain ⟨r, h'⟩ := q9
        refine ⟨fun hM0 => hM0 y _ h r h' hcal, fun p l e R s m args below meth c G base z Q h0 F hC hcl hsl hc0 hs0 w H locs Ls cells slots HK hl hS hcc hss => ?_⟩
        obtain ⟨hmono, hMet⟩ := hC y mt hm _ h r h' hcal
        obtain ⟨rm, r1, r2, r3, hM⟩ := hMet G base z
        have hcc' : cells + h0.1.length = h.1.length := hcc
        have hss' : slots + ax_slt h0 = ax_slt h := hss
        have hcl' : h'.1.length ≤ h0.1.length + R.cells := hcl
        have hsl' : ax_slt h' ≤ ax_slt h0 + R.slots := hsl
        have hpre := ax_pre (as := (st.take (k + 1)).reverse) F HK hS
        rw [f2] at hpre hM
        have hrun := va_runV (As := (st.take k).reverse.map (ax_rv z)) (b := z.1 q) (rest := (st.drop (k + 1)).map (ax_rv z)) (g := F0 m pc Ls (st.map (ax_rv z))) (n := k) (nL := nL) (C := C) ⟨F.1, F.2.1, F.2.2.1, F.2.2.2.1, F.2.2.2.2.1⟩ hM ⟨callB_of k F.2.2.2.2.1 (ax_goodm hw4) rfl r1 r2 (F.2.2.2.2.1 _ hw3) (F.2.2.2.2.1 _ hw) hdd r3, F.2.2.2.2.1 _ hw2, F.2.2.2.2.1 _ hw5⟩ ⟨ax_blind _ _ _ _ _ _, va_recv F.2.2.2.2.2.1 HK.2.2.2.2 (q0 := q) hc (by rw [ax_ws_get G z.1 hk, ax_cell_o G z.1 h100]), hpre⟩ (locs := locs) (cells := cells) (slots := slots) (e := e) (below := below) (meth := meth)
          rfl (by simp at f3 ⊢; omega) hl.2.1.1 (by
            show st.map (ax_rv z) = _
            conv => lhs; rw [f1]
            rw [← List.map_reverse, List.reverse_reverse, List.map_append]; rfl) (by rw [ax_cats_map]; show 2 * 0 + _ ≤ 8; omega) hd (by omega)
        exact ax_runW hrun F.2.2.2.2.2.2.2.2.2.2.2.1 hl hS (by omega) (by omega) w
    · cases ho
  · cases ho
theorem sm_callI {ci N y k n idx : Nat} {mt : ax_M} (hd : decode cc pc = .ok (.invokespecial idx, 3)) (hm : ME y = some mt) (hw : Cond.methodLink own idx mt.1 ∈ ax_tbl) (hw2 : Cond.instanceMethod mt.1 ∈ ax_tbl) (hw3 : Cond.initialized mt.1.cls ∈ ax_tbl) (hw4 : Cond.code mt.1 mt.2.1 mt.2.2.1 none ∈ ax_tbl) (hnn : mt.2.2.2 = none) (hin : mt.1.name = "<init>")
    (hdd : mt.1.cls ≠ "java/lang/invoke/MethodHandle" ∧ mt.1.cls ≠ "java/lang/invoke/VarHandle" ∧ (parseMethodDescriptor mt.1.desc).map (fun d => d.parameters.length) = some k) (hn : n = pc + 3) : ax_Sim ME ini own cc nL ret pc (a_callV ci N y k n) := by
  subst hn
  intro E cal ls st h o ho
  simp only [a_callV] at ho
  split at ho
  · rename_i q hq
    split at ho
    · rename_i hk8
      obtain ⟨hk, h8⟩ := hk8
      obtain ⟨f1, f2, f3⟩ := ax_split hq
      cases hcal : cal y (st.take (k + 1)).reverse h with
      | none => rw [hcal] at ho; cases ho
      | some q9 =>
        rw [hcal] at ho
        cases ho
        obtain ⟨r, h'⟩ := q9
        refine ⟨fun hM0 => hM0 y _ h r h' hcal, fun p l e R s m args below meth c G base z Q h0 F hC hcl hsl hc0 hs0 w H locs Ls cells slots HK hl hS hcc hss => ?_⟩
        obtain ⟨hmono, hMet⟩ := hC y mt hm _ h r h' hcal
        obtain ⟨rm, r1, r2, r3, hM⟩ := hMet G base z
        have hcc' : cells + h0.1.length = h.1.length := hcc
        have hss' : slots + ax_slt h0 = ax_slt h := hss
        have hcl' : h'.1.length ≤ h0.1.length + R.cells := hcl
        have hsl' : ax_slt h' ≤ ax_slt h0 + R.slots := hsl
        have hpre := ax_pre (as := (st.take (k + 1)).reverse) F HK hS
        rw [f2] at hpre hM
        have hg : GoodIn ax_tbl (ax_wsm mt) := ax_goodm (by rw [hnn]; exact hw4)
        have hrun := va_runI (As := (st.take k).reverse.map (ax_rv z)) (b := z.1 q) (rest := (st.drop (k + 1)).map (ax_rv z)) (g := F0 m pc Ls (st.map (ax_rv z))) (n := k) (nL := nL) ⟨F.1, F.2.1, F.2.2.1, F.2.2.2.1, F.2.2.2.2.1⟩ hM ⟨callB_of k F.2.2.2.2.1 hg (ws' := []) (by rw [ax_wsm, hnn]) r1 r2 (F.2.2.2.2.1 _ hw3) (F.2.2.2.2.1 _ hw) hdd r3, hin, F.2.2.2.2.1 _ hw2⟩ ⟨ax_blind _ _ _ _ _ _, hpre⟩ (locs := locs) (cells := cells) (slots := slots) (e := e) (below := below) (meth := meth)
          rfl (by simp at f3 ⊢; omega) hl.2.1.1 (by
            show st.map (ax_rv z) = _
            conv => lhs; rw [f1]
            rw [← List.map_reverse, List.reverse_reverse, List.map_append]; rfl) (by rw [ax_cats_map]; show 2 * 0 + _ ≤ 8; omega) hd (by omega)
        exact ax_runW hrun F.2.2.2.2.2.2.2.2.2.2.2.1 hl hS (by omega) (by omega) w
    · cases ho
  · cases ho
theorem sm_callIN {ci N y k n idx : Nat} {host : String} {mt : ax_M} (hd : decode cc pc = .ok (.invokespecial idx, 3)) (hm : ME y = some mt) (hw : Cond.methodLinkNest own idx mt.1 host ∈ ax_tbl) (hw2 : Cond.instanceMethod mt.1 ∈ ax_tbl) (hw3 : Cond.initialized mt.1.cls ∈ ax_tbl) (hw4 : Cond.code mt.1 mt.2.1 mt.2.2.1 none ∈ ax_tbl) (hnn : mt.2.2.2 = none) (hin : mt.1.name = "<init>")
    (hdd : mt.1.cls ≠ "java/lang/invoke/MethodHandle" ∧ mt.1.cls ≠ "java/lang/invoke/VarHandle" ∧ (parseMethodDescriptor mt.1.desc).map (fun d => d.parameters.length) = some k) (hn : n = pc + 3) : ax_Sim ME ini own cc nL ret pc (a_callV ci N y k n) := by
  subst hn
  intro E cal ls st h o ho
  simp only [a_callV] at ho
  split at ho
  · rename_i q hq
    split at ho
    · rename_i hk8
      obtain ⟨hk, h8⟩ := hk8
      obtain ⟨f1, f2, f3⟩ := ax_split hq
      cases hcal : cal y (st.take (k + 1)).reverse h with
      | none => rw [hcal] at ho; cases ho
      | some q9 =>
        rw [hcal] at ho
        cases ho
        obtain ⟨r, h'⟩ := q9
        refine ⟨fun hM0 => hM0 y _ h r h' hcal, fun p l e R s m args below meth c G base z Q h0 F hC hcl hsl hc0 hs0 w H locs Ls cells slots HK hl hS hcc hss => ?_⟩
        obtain ⟨hmono, hMet⟩ := hC y mt hm _ h r h' hcal
        obtain ⟨rm, r1, r2, r3, hM⟩ := hMet G base z
        have hcc' : cells + h0.1.length = h.1.length := hcc
        have hss' : slots + ax_slt h0 = ax_slt h := hss
        have hcl' : h'.1.length ≤ h0.1.length + R.cells := hcl
        have hsl' : ax_slt h' ≤ ax_slt h0 + R.slots := hsl
        have hpre := ax_pre (as := (st.take (k + 1)).reverse) F HK hS
        rw [f2] at hpre hM
        have hg : GoodIn ax_tbl (ax_wsm mt) := ax_goodm (by rw [hnn]; exact hw4)
        have hrun := va_runIN (As := (st.take k).reverse.map (ax_rv z)) (b := z.1 q) (rest := (st.drop (k + 1)).map (ax_rv z)) (g := F0 m pc Ls (st.map (ax_rv z))) (n := k) (nL := nL) ⟨F.1, F.2.1, F.2.2.1, F.2.2.2.1, F.2.2.2.2.1⟩ hM ⟨va_cnB k F.2.2.2.2.1 hg (ws' := []) (by rw [ax_wsm, hnn]) r1 r2 (va_any rfl (F.2.2.2.2.1 _ hw)) (F.2.2.2.2.1 _ hw3) hdd r3, hin, F.2.2.2.2.1 _ hw2⟩ ⟨ax_blind _ _ _ _ _ _, hpre⟩ (locs := locs) (cells := cells) (slots := slots) (e := e) (below := below) (meth := meth)
          rfl (by simp at f3 ⊢; omega) hl.2.1.1 (by
            show st.map (ax_rv z) = _
            conv => lhs; rw [f1]
            rw [← List.map_reverse, List.reverse_reverse, List.map_append]; rfl) (by rw [ax_cats_map]; show 2 * 0 + _ ≤ 8; omega) hd (by omega)
        exact ax_runW hrun F.2.2.2.2.2.2.2.2.2.2.2.1 hl hS (by omega) (by omega) w
    · cases ho
  · cases ho
end SC
end
section
/-! SIMULATION: whole runs, methods -/
/-- a call on the text constant -/
def a_callX (y k n : Nat) : ax_Act := fun _ cal S => match S with
  | (_, ls, st, h) => match ax_nth st k with
    | some (.retAddr q) => if q = 1 ∧ ax_cats (st.drop (k + 1)) ≤ 8 then ax_back (cal y (st.take (k + 1)).reverse h) n ls (st.drop (k + 1)) else none
    | _ => none
section SR
variable {ME : Nat → Option ax_M} {ini : Bool} {own : String} {cc : ByteArray} {nL : Nat} {ret : Option FieldType} {pc : Nat}
theorem sm_callX {y k n idx : Nat} {mt : ax_M} (hd : decode cc pc = .ok (.invokevirtual idx, 3)) (hm : ME y = some mt) (hw : Cond.methodLink own idx mt.1 ∈ ax_tbl) (hw2 : Cond.instanceMethod mt.1 ∈ ax_tbl) (hw3 : Cond.initialized mt.1.cls ∈ ax_tbl) (hw4 : Cond.code mt.1 mt.2.1 mt.2.2.1 mt.2.2.2 ∈ ax_tbl) (hw5 : Cond.selects "java/lang/String" mt.1 mt.1 ∈ ax_tbl)
    (hdd : mt.1.cls ≠ "java/lang/invoke/MethodHandle" ∧ mt.1.cls ≠ "java/lang/invoke/VarHandle" ∧ (parseMethodDescriptor mt.1.desc).map (fun d => d.parameters.length) = some k) (hn : n = pc + 3) : ax_Sim ME ini own cc nL ret pc (a_callX y k n) := by
  subst hn
  intro E cal ls st h o ho
  simp only [a_callX] at ho
  split at ho
  · rename_i q hq
    split at ho
    · rename_i hk8
      obtain ⟨hk, h8⟩ := hk8
      subst hk
      obtain ⟨f1, f2, f3⟩ := ax_split hq
      cases hcal : cal y (st.take (k + 1)).reverse h with
      | none => rw [hcal] at ho; cases ho
      | some q9 =>
        rw [hcal] at ho
        cases ho
        obtain ⟨r, h'⟩ := q9
        refine ⟨fun hM0 => hM0 y _ h r h' hcal, fun p l e R s m args below meth c G base z Q h0 F hC hcl hsl hc0 hs0 w H locs Ls cells slots HK hl hS hcc hss => ?_⟩
        obtain ⟨hmono, hMet⟩ := hC y mt hm _ h r h' hcal
        obtain ⟨rm, r1, r2, r3, hM⟩ := hMet G base z
        have hcc' : cells + h0.1.length = h.1.length := hcc
        have hss' : slots + ax_slt h0 = ax_slt h := hss
        have hcl' : h'.1.length ≤ h0.1.length + R.cells := hcl
        have hsl' : ax_slt h' ≤ ax_slt h0 + R.slots := hsl
        have hpre := ax_pre (as := (st.take (k + 1)).reverse) F HK hS
        rw [f2] at hpre hM
        obtain ⟨adV, g1, g2, -⟩ := F.2.2.2.2.2.2.2.2.2.2.2.2
        have hrun := va_runV (As := (st.take k).reverse.map (ax_rv z)) (b := z.2.2) (rest := (st.drop (k + 1)).map (ax_rv z)) (g := F0 m pc Ls (st.map (ax_rv z))) (n := k) (nL := nL) (C := "java/lang/String") ⟨F.1, F.2.1, F.2.2.1, F.2.2.2.1, F.2.2.2.2.1⟩ hM ⟨callB_of k F.2.2.2.2.1 (ax_goodm hw4) rfl r1 r2 (F.2.2.2.2.1 _ hw3) (F.2.2.2.2.1 _ hw) hdd r3, F.2.2.2.2.1 _ hw2, F.2.2.2.2.1 _ hw5⟩ ⟨ax_blind _ _ _ _ _ _, vk_recv (i := 0) g2 (by decide) hS, hpre⟩ (locs := locs) (cells := cells) (slots := slots) (e := e) (below := below) (meth := meth)
          rfl (by simp at f3 ⊢; omega) hl.2.1.1 (by
            show st.map (ax_rv z) = _
            conv => lhs; rw [f1]
            rw [← List.map_reverse, List.reverse_reverse, List.map_append]; rfl) (by rw [ax_cats_map]; show 2 * 0 + _ ≤ 8; omega) hd (by omega)
        exact ax_runW hrun F.2.2.2.2.2.2.2.2.2.2.2.1 hl hS (by omega) (by omega) w
    · cases ho
  · cases ho
theorem ax_clamp0 {c : Int32} (h : ¬ c < 0) : c.toInt = (c.toNatClampNeg : Int) := by
  have hz0 : (0 : Int) ≤ c.toInt := by
    have := Int32.not_lt.mp h
    simpa using Int32.le_iff_toInt_le.mp this
  show c.toInt = ((c.toInt.toNat : Nat) : Int)
  omega
theorem sm_acpy {n idx : Nat} (hd : decode cc pc = .ok (.invokestatic idx, 3)) (hw : Cond.methodLink own idx arraycopyName ∈ ax_tbl) (hw2 : Cond.native arraycopyName ∈ ax_tbl) (hw3 : Cond.static arraycopyName ∈ ax_tbl) (hw4 : Cond.initialized "java/lang/System" ∈ ax_tbl) (hn : n = pc + 3) : ax_Sim ME ini own cc nL ret pc (a_acpy n) := by
  subst hn
  intro E cal ls st h o ho
  obtain ⟨sh, I, RR⟩ := h
  simp only [a_acpy] at ho
  split at ho
  · rename_i k dp b sp a st1 sh1 I1 R1 he
    cases he
    split at ho
    · rename_i ca cb ha hb
      split at ho
      · rename_i hcd
        obtain ⟨c1, c2, rfl, rfl, c5, c6, c7, c8⟩ := hcd
        cases ho
        refine ⟨fun _ => ⟨Nat.le_refl _, Nat.le_refl _⟩, fun p l e R s m args below meth c G base z Q h0 F hC _ _ _ _ w H locs Ls cells slots HK hl hS hcc hss => ?_⟩
        have hata := ax_ok_at HK ha
        have hatb := ax_ok_at HK hb
        rw [ax_cell_i G z.1 c1] at hata
        rw [ax_cell_i G z.1 c2] at hatb
        have hA : H[z.1 a]? = some (vp_cell G.2.1 (ca.2, .inl (I a))) := hata
        have hB : H[z.1 b]? = some (vp_cell G.2.1 (cb.2, .inl (I b))) := hatb
        obtain ⟨-, k0, hk0, cm0, hkk0⟩ := (F.2.2.2.2.2.1.2 0 _ rfl).1 ca.2 (fun j => .int (I a j))
        obtain ⟨-, k1, hk1, cm1, hkk1⟩ := (F.2.2.2.2.2.1.2 0 _ rfl).1 cb.2 (fun j => .int (I b j))
        intro T hT X
        have hbb := F.2.1
        subst hbb
        obtain ⟨vm', X', step⟩ := X.arraycopy F.1 F.2.2.2.1 (F.2.2.2.2.1 _ hw) (F.2.2.2.2.1 _ hw2) (F.2.2.2.2.1 _ hw3) (F.2.2.2.2.1 _ hw4) (src := z.1 a) (dst := z.1 b) (cs := vp_cell G.2.1 (ca.2, .inl (I a))) (cd := vp_cell G.2.1 (cb.2, .inl (I b))) (srcPos := 0) (destPos := 0) (n := k) (by rw [hT]; exact hA) (by rw [hT]; exact hB)
          (fun _ h => by cases h) (fun _ h => by cases h) (fun h => by cases h) (fun h => by cases h) hk0 hk1 hkk0 hkk1 (by simp [refKind]) (by decide) (by decide) c5
          (by rw [ax_clamp0 c5]; show ¬ _ > ((arrV _ ca.2 (fun j => .int (I a j))).slots.size : Int); rw [arrV_size]; show ¬ (0 : Int) + _ > _; omega)
          (by rw [ax_clamp0 c5]; show ¬ _ > ((arrV _ cb.2 (fun j => .int (I b j))).slots.size : Int); rw [arrV_size]; show ¬ (0 : Int) + _ > _; omega)
          (fun vm₁ _ i hi => by
            have e : (vp_cell G.2.1 (ca.2, .inl (I a))).slots.getD ((0 : Int32).toNatClampNeg + i) .null = .int (I a ((0 : Int32).toNatClampNeg + i)) := by
              show (arrV _ ca.2 (fun j => .int (I a j))).slots.getD _ _ = _
              rw [Array.getD_eq_getD_getElem?, arrV_read _ _ (by show 0 + i < _; omega)]
              rfl
            refine ⟨?_, ?_⟩
            · rw [e]; rfl
            · rw [e]; exact trivial)
          (g := F0 m pc Ls (.int k :: .int 0 :: .ref (z.1 b) :: .int 0 :: .ref (z.1 a) :: st1.map (ax_rv z))) rfl (by rw [F.2.2.1]; exact hl.2.1.1) (rest := st1.map (ax_rv z)) rfl hd F.2.2.2.2.2.2.1.1 (by
            rw [ax_cats_map]
            have h64 := F.2.2.2.2.2.2.1.2
            have hnw : nativeFrameWords "java/lang/System" "arraycopy" 5 ≤ 20 := by decide +kernel
            show 2 * 0 + _ + _ ≤ _
            omega)
        have e1 : copied (vp_cell G.2.1 (ca.2, .inl (I a))) (vp_cell G.2.1 (cb.2, .inl (I b))) 0 0 k = vp_cell G.2.1 (cb.2, .inl (va_cpy (I a) (I b) 0 0 k.toNatClampNeg)) := va_copied (fun z => .int z) G.2.1 G.2.1 (I a) (I b) (by show 0 + _ ≤ _; omega)
        rw [e1] at X' step
        generalize hv9 : vp_cell G.2.1 (cb.2, .inl (va_cpy (I a) (I b) 0 0 k.toNatClampNeg)) = cell9 at X' step
        have hlt : z.1 b < H.size := (Array.getElem?_eq_some_iff.mp hB).1
        have hheap : ((T.setVm vm').setCell (z.1 b) cell9).heap = H.setIfInBounds (z.1 b) cell9 := by rw [← hT]; rfl
        have oq : ∀ q : Nat, q ≠ z.1 b → (H.setIfInBounds (z.1 b) cell9)[q]? = H[q]? := fun q hq => by simp [Array.getElem?_setIfInBounds, Ne.symm hq]
        have hat1 : va_at G.1 vwCl (z.1 b, ax_cell G z.1 cb (va_cpy (I a) (I b) 0 0 k.toNatClampNeg) (RR b)) (H.setIfInBounds (z.1 b) cell9) := by
          rw [ax_cell_i G z.1 c2, ← hv9]
          show (H.setIfInBounds (z.1 b) _)[z.1 b]? = some _
          simp [Array.getElem?_setIfInBounds, hlt]
        have HK1 := ax_ok_set HK hb hat1 (by simp) oq
        rw [ax_up_id RR b] at HK1
        obtain ⟨t, a1, b1⟩ := w _ _ Ls cells slots HK1 hl ⟨by simp; exact hS.1, fun q g1 g2 => by
            rw [oq q (fun e => g2 (by rw [e]; exact HK.2.1 b))]
            exact hS.2.1 q g1 g2, fun q hq => by
            rcases List.mem_append.mp hq with h | h
            · exact hS.2.2 q h
            · obtain ⟨z9, -, hz⟩ := List.mem_map.mp h
              rw [← hz]
              exact HK.2.1 b⟩ hcc hss _ hheap X'
        exact ⟨t, step t a1, b1⟩
      · cases ho
    · cases ho
  · cases ho
/-- a whole run -/
theorem ax_run_mono {E : ax_E} {cal : ax_Cal} {t : ax_T} (hM : ax_Mono cal) (hT : ∀ (pc : Nat) (act : ax_Act), ax_row t pc = some act → ax_Sim ME ini own cc nL ret pc act) : ∀ (n : Nat) (S : ax_S) (r : Option Value) (hf : ax_H), ax_run E cal t n S = some (r, hf) → S.2.2.2.1.length ≤ hf.1.length ∧ ax_slt S.2.2.2 ≤ ax_slt hf
  | 0, S, r, hf, h => by cases h
  | n + 1, (pc, ls, st, h9), r, hf, h => by
    rw [ax_run] at h
    cases hs : ax_step E cal t (pc, ls, st, h9) with
    | none => rw [hs] at h; cases h
    | some o =>
      rw [hs] at h
      rw [ax_step] at hs
      cases ha : ax_row t (pc, ls, st, h9).1 with
      | none => rw [ha] at hs; cases hs
      | some act =>
        rw [ha] at hs
        have hm := (hT pc act ha E cal ls st h9 o hs).1 hM
        cases o with
        | inl S' =>
          have h2 := ax_run_mono hM hT n S' r hf h
          exact ⟨Nat.le_trans hm.1 h2.1, Nat.le_trans hm.2 h2.2⟩
        | inr q =>
          have e : q = (r, hf) := Option.some.inj h
          have hm : q.2 = h9 := hm
          rw [e] at hm
          have hm : hf = h9 := hm
          subst hm
          exact ⟨Nat.le_refl _, Nat.le_refl _⟩
theorem ax_run_sim {E : ax_E} {cal : ax_Cal} {t : ax_T} (hM : ax_Mono cal) (hT : ∀ (pc : Nat) (act : ax_Act), ax_row t pc = some act → ax_Sim ME ini own cc nL ret pc act) {p : Program} {l : Launch} {e : Env} {R : Room} {s : State} {m : MethodId} {args : Array Value} {below : List Frame} {meth : Method} {c : Code} {G : ax_G} {base : Nat} {z : ax_Z} {Q : State → Prop} {h0 : ax_H}
    (F : ax_Fr ini own cc nL ret p R s m args meth c G base z E) (hC : ax_CalOk ME l R E cal) {r : Option Value} {hf : ax_H} (hcap : hf.1.length ≤ h0.1.length + R.cells) (hscap : ax_slt hf ≤ ax_slt h0 + R.slots) (hH : ax_Ho cc ret p l e R s m args below meth c G base z Q h0 r hf) : ∀ (n : Nat) (S : ax_S), ax_run E cal t n S = some (r, hf) → h0.1.length ≤ S.2.2.2.1.length → ax_slt h0 ≤ ax_slt S.2.2.2 → ax_Wt nL p l e R s m args below meth c G base z Q h0 S
  | 0, S, h, _, _ => by cases h
  | n + 1, (pc, ls, st, h9), h, hl0, hs0 => by
    rw [ax_run] at h
    cases hs : ax_step E cal t (pc, ls, st, h9) with
    | none => rw [hs] at h; cases h
    | some o =>
      rw [hs] at h
      rw [ax_step] at hs
      cases ha : ax_row t (pc, ls, st, h9).1 with
      | none => rw [ha] at hs; cases hs
      | some act =>
        rw [ha] at hs
        obtain ⟨hm, k⟩ := hT pc act ha E cal ls st h9 o hs
        have hm := hm hM
        cases o with
        | inl S' =>
          have h2 := ax_run_mono hM hT n S' r hf h
          exact k p l e R s m args below meth c G base z Q h0 F hC (Nat.le_trans h2.1 hcap) (Nat.le_trans h2.2 hscap) hl0 hs0 (ax_run_sim hM hT F hC hcap hscap hH n S' h (Nat.le_trans hl0 hm.1) (Nat.le_trans hs0 hm.2))
        | inr q =>
          have e9 : q = (r, hf) := Option.some.inj h
          subst e9
          have hm : hf = h9 := hm
          subst hm
          exact k p l e R s m args below meth c G base z Q h0 F hC hH
/-- a part of a run -/
theorem ax_go_sim {E : ax_E} {cal : ax_Cal} {t : ax_T} (hM : ax_Mono cal) (hT : ∀ (pc : Nat) (act : ax_Act), ax_row t pc = some act → ax_Sim ME ini own cc nL ret pc act) {p : Program} {l : Launch} {e : Env} {R : Room} {s : State} {m : MethodId} {args : Array Value} {below : List Frame} {meth : Method} {c : Code} {G : ax_G} {base : Nat} {z : ax_Z} {Q : State → Prop} {h0 : ax_H}
    (F : ax_Fr ini own cc nL ret p R s m args meth c G base z E) (hC : ax_CalOk ME l R E cal) {S1 : ax_S} (hcap : S1.2.2.2.1.length ≤ h0.1.length + R.cells) (hscap : ax_slt S1.2.2.2 ≤ ax_slt h0 + R.slots) (w : ax_Wt nL p l e R s m args below meth c G base z Q h0 S1) : ∀ (n : Nat) (S : ax_S), ax_go E cal t n S S1 → h0.1.length ≤ S.2.2.2.1.length → ax_slt h0 ≤ ax_slt S.2.2.2 → (S.2.2.2.1.length ≤ S1.2.2.2.1.length ∧ ax_slt S.2.2.2 ≤ ax_slt S1.2.2.2) ∧ ax_Wt nL p l e R s m args below meth c G base z Q h0 S
  | 0, S, h, _, _ => by cases h; exact ⟨⟨Nat.le_refl _, Nat.le_refl _⟩, w⟩
  | n + 1, (pc, ls, st, h9), h, hl0, hs0 => by
    obtain ⟨S', hs, h⟩ := h
    rw [ax_step] at hs
    cases ha : ax_row t (pc, ls, st, h9).1 with
    | none => rw [ha] at hs; cases hs
    | some act =>
      rw [ha] at hs
      obtain ⟨hm, k⟩ := hT pc act ha E cal ls st h9 _ hs
      have hm : h9.1.length ≤ S'.2.2.2.1.length ∧ ax_slt h9 ≤ ax_slt S'.2.2.2 := hm hM
      obtain ⟨h2, h3⟩ := ax_go_sim hM hT F hC hcap hscap w n S' h (Nat.le_trans hl0 hm.1) (Nat.le_trans hs0 hm.2)
      exact ⟨⟨Nat.le_trans hm.1 h2.1, Nat.le_trans hm.2 h2.2⟩, k p l e R s m args below meth c G base z Q h0 F hC (Nat.le_trans h2.1 hcap) (Nat.le_trans h2.2 hscap) hl0 hs0 h3⟩
end SR
/-! methods -/
def ax_ent (as : List Value) (nL : Nat) : List Value := as ++ List.replicate (nL - as.length) (.float 0)
noncomputable def ax_res (E : ax_E) (cal : ax_Cal) (t : ax_T) (S : ax_S) : Option ax_R := @dite _ (∃ r, ∃ n, ax_run E cal t n S = some r) (Classical.propDecidable _) (fun h => some (Classical.choose h)) (fun _ => none)
theorem ax_res_of {E : ax_E} {cal : ax_Cal} {t : ax_T} {S : ax_S} {r : ax_R} (h : ax_res E cal t S = some r) : ∃ n, ax_run E cal t n S = some r := by
  unfold ax_res at h
  by_cases q : ∃ r, ∃ n, ax_run E cal t n S = some r
  · rw [dif_pos q] at h
    have := Classical.choose_spec q
    rw [Option.some.inj h] at this
    exact this
  · rw [dif_neg q] at h; cases h
theorem ax_res_to {E : ax_E} {cal : ax_Cal} {t : ax_T} {S : ax_S} {r : ax_R} {n : Nat} (h : ax_run E cal t n S = some r) : ax_res E cal t S = some r := by
  unfold ax_res
  have q : ∃ r, ∃ n, ax_run E cal t n S = some r := ⟨r, n, h⟩
  rw [dif_pos q]
  obtain ⟨n', h'⟩ := Classical.choose_spec q
  rw [ax_run_one h' h]
abbrev ax_PR : Type := Nat → Option (ax_T × Nat)
abbrev ax_XT : Type := Nat → List Value → ax_H → Option ax_R
noncomputable def ax_calG (PR : ax_PR) (XT : ax_XT) (E : ax_E) : Nat → ax_Cal
  | 0 => fun _ _ _ => none
  | d + 1 => fun y as h => match PR y with
    | some q => if ax_cats as = as.length ∧ as.length ≤ q.2 then ax_res E (ax_calG PR XT E d) q.1 (0, ax_ent as q.2, [], h) else none
    | none => XT y as h
theorem ax_cats1 : ∀ (as : List Value), ax_cats as = as.length → ∀ v ∈ as, v.category = 1
  | [], _, v, h => by cases h
  | a :: l, h, v, hv => by
    have h1 : ∀ w : Value, 1 ≤ w.category := fun w => by cases w <;> simp [Value.category]
    have h2 : ∀ l : List Value, l.length ≤ ax_cats l := fun l => by
      induction l with
      | nil => exact Nat.le_refl _
      | cons w l ih => have := h1 w; show l.length + 1 ≤ w.category + ax_cats l; omega
    have h3 := h1 a
    have h4 := h2 l
    have h5 : a.category + ax_cats l = l.length + 1 := h
    rcases List.mem_cons.mp hv with e | e
    · rw [e]; omega
    · exact ax_cats1 l (by omega) v e
theorem ax_args_mem (z : ax_Z) : ∀ (as : List Value) (k i : Nat) (v : Value), (∀ w ∈ as, w.category = 1) → as[i]? = some v → (k + i, ax_rv z v) ∈ lv_args k (as.map (ax_rv z))
  | [], k, i, v, _, h => by simp at h
  | a :: l, k, 0, v, hc, h => by
    simp at h
    subst h
    exact List.mem_cons_self
  | a :: l, k, i + 1, v, hc, h => by
    have ha : ¬ (ax_rv z a).category = 2 := by rw [ax_rv_cat, hc a List.mem_cons_self]; decide
    show (k + (i + 1), ax_rv z v) ∈ (k, ax_rv z a) :: lv_args (if (ax_rv z a).category = 2 then k + 2 else k + 1) (l.map (ax_rv z))
    rw [if_neg ha]
    have := ax_args_mem z l (k + 1) i v (fun w hw => hc w (List.mem_cons_of_mem _ hw)) (by simpa using h)
    rw [show k + (i + 1) = k + 1 + i by omega]
    exact List.mem_cons_of_mem _ this
theorem ax_sl_len (z : ax_Z) : ∀ (as : List Value), (∀ w ∈ as, w.category = 1) → (lg_sl (as.map (ax_rv z))).length = as.length
  | [], _ => rfl
  | a :: l, hc => by
    have ha : ¬ (ax_rv z a).category = 2 := by rw [ax_rv_cat, hc a List.mem_cons_self]; decide
    have ih := ax_sl_len z l (fun w hw => hc w (List.mem_cons_of_mem _ hw))
    simp only [lg_sl, List.map_cons, List.flatMap_cons, if_neg ha] at ih ⊢
    simp [ih]
theorem ax_entry {z : ax_Z} {as : List Value} {nL : Nat} (hc : ax_cats as = as.length) (hn : as.length ≤ nL) (m : MethodId) : ∃ Ls : Array Slot, entryFrame m (as.map (ax_rv z)).toArray nL = F0 m 0 Ls [] ∧ ax_loc z nL Ls (ax_ent as nL) := by
  have h1 := ax_cats1 as hc
  have hlen := ax_sl_len z as h1
  have hl := lv_entry (as.map (ax_rv z)) (n := nL) (by rw [hlen]; exact hn)
  refine ⟨_, lg_entry_eq m (as.map (ax_rv z)) nL, by simp [ax_ent]; omega, ⟨hl.1, hl.2.1, fun q hq => by cases hq⟩, fun i v hi hv => ?_⟩
  by_cases hia : i < as.length
  · rw [ax_ent, List.getElem?_append_left hia] at hi
    have := hl.2.2 (0 + i, ax_rv z v) (ax_args_mem z as 0 i v h1 hi)
    rw [Nat.zero_add] at this
    exact this
  · rw [ax_ent, List.getElem?_append_right (by omega)] at hi
    have := List.mem_of_getElem? hi
    rw [List.mem_replicate] at this
    exact absurd this.2 hv
def ax_rm (d mc ms : Nat) : Room := { frames := d + 1, cells := mc, slots := ms, locals := 45 * d + 100 }
/-- what a table of methods must be -/
def ax_PrOk (ME : Nat → Option ax_M) (PR : ax_PR) : Prop := ∀ (y : Nat) (q : ax_T × Nat), PR y = some q → ∃ mt : ax_M, ME y = some mt ∧ mt.2.2.1 = q.2 ∧ q.2 ≤ 26 ∧ plainName mt.1.cls = true ∧ ∃ ini : Bool, (ini = true → mt.1.name = "<init>") ∧ ∀ (pc : Nat) (act : ax_Act), ax_row q.1 pc = some act → ax_Sim ME ini mt.1.cls mt.2.1 q.2 mt.2.2.2 pc act
def ax_XtOk (ME : Nat → Option ax_M) (PR : ax_PR) (XT : ax_XT) (l : Launch) (E : ax_E) : Prop := ∀ (y : Nat) (mt : ax_M), PR y = none → ME y = some mt → mt.2.2.1 ≤ 26 ∧ ∀ (as : List Value) (h : ax_H) (r : Option Value) (h' : ax_H), XT y as h = some (r, h') → ∀ (d : Nat) (G : ax_G) (base : Nat) (z : ax_Z),
  Met l mt.1 (ax_wsm mt) (ax_rm (d + 1) (h'.1.length - h.1.length) (ax_slt h' - ax_slt h)) (ax_Pc G base z E as h) (ax_Qc G base z r h') (h'.1.length - h.1.length) (ax_slt h' - ax_slt h) (fun q => base ≤ q)
def ax_XtMono (XT : ax_XT) : Prop := ∀ (y : Nat) (as : List Value) (h : ax_H) (r : Option Value) (h' : ax_H), XT y as h = some (r, h') → h.1.length ≤ h'.1.length ∧ ax_slt h ≤ ax_slt h'
theorem ax_cal_mono {ME : Nat → Option ax_M} {PR : ax_PR} {XT : ax_XT} {E : ax_E} (hP : ax_PrOk ME PR) (hX : ax_XtMono XT) : ∀ d, ax_Mono (ax_calG PR XT E d)
  | 0 => fun y as h r h' e => by cases e
  | d + 1 => fun y as h r h' e => by
    simp only [ax_calG] at e
    cases hq : PR y with
    | none => rw [hq] at e; exact hX y as h r h' e
    | some q =>
      rw [hq] at e
      by_cases hc : ax_cats as = as.length ∧ as.length ≤ q.2
      · simp only [if_pos hc] at e
        obtain ⟨n, hn⟩ := ax_res_of e
        obtain ⟨mt, -, -, -, -, ini, -, hT⟩ := hP y q hq
        exact ax_run_mono (ax_cal_mono hP hX d) hT n _ r h' hn
      · simp only [if_neg hc] at e; cases e
theorem ax_cal_ok {ME : Nat → Option ax_M} {PR : ax_PR} {XT : ax_XT} {E : ax_E} (l : Launch) (hP : ax_PrOk ME PR) (hX : ax_XtMono XT) (hXo : ax_XtOk ME PR XT l E) : ∀ (d : Nat) (R : Room), d + 2 ≤ R.frames → 45 * d + 145 ≤ R.locals → ax_CalOk ME l R E (ax_calG PR XT E d)
  | 0, R, _, _ => fun y mt hm as h r h' e => by cases e
  | d + 1, R, hR1, hR2 => fun y mt hm as h r h' e => by
    refine ⟨ax_cal_mono hP hX (d + 1) y as h r h' e, fun G base z => ⟨ax_rm (d + 1) (h'.1.length - h.1.length) (ax_slt h' - ax_slt h), rfl, rfl, ?_⟩⟩
    have hmono := ax_cal_mono hP hX (d + 1) y as h r h' e
    simp only [ax_calG] at e
    cases hq : PR y with
    | none =>
      rw [hq] at e
      obtain ⟨h26, hMt⟩ := hXo y mt hq hm
      exact ⟨⟨hR1, by show 8 + (mt.2.2.1 + 11) + (45 * (d + 1) + 100) ≤ R.locals; omega⟩, hMt as h r h' e d G base z⟩
    | some q =>
      rw [hq] at e
      obtain ⟨mt', hm', hnl, h26, hpl, ini, hin, hT⟩ := hP y q hq
      have hmt : mt = mt' := Option.some.inj (hm.symm.trans hm')
      subst hmt
      refine ⟨⟨hR1, by show 8 + (mt.2.2.1 + 11) + (45 * (d + 1) + 100) ≤ R.locals; omega⟩, ?_⟩
      by_cases hc : ax_cats as = as.length ∧ as.length ≤ q.2
      · simp only [if_pos hc] at e
        obtain ⟨n, hn⟩ := ax_res_of e
        refine Met.ofW (cc := mt.2.1) (maxL := mt.2.2.1) (ret := mt.2.2.2) hpl rfl ?_
        intro p e9 s m args below meth c s₁ B hml hv
        obtain ⟨rfl, hok, hK, hXX, hNN⟩ := hv
        obtain ⟨Ls, hent, hloc⟩ := ax_entry (z := z) hc.1 hc.2 m
        have hb := B.bytes
        have hlocks := B.notSynchronized
        have F : ax_Fr ini mt.1.cls mt.2.1 q.2 mt.2.2.2 p (ax_rm (d + 1) (h'.1.length - h.1.length) (ax_slt h' - ax_slt h)) s m (as.map (ax_rv z)).toArray meth c G base z E := ⟨B.exec, hb, by rw [← hnl]; exact hml, findClass_of_methodNamed B.named, hNN.use _, hK, ⟨by show 1 ≤ d + 1 + 1; omega, by show 64 ≤ 45 * (d + 1) + 100; omega⟩, fun hi => by rw [(name_of_methodNamed B.named B.method).1]; exact hin hi, B.returns, hXX⟩
        have hC := ax_cal_ok l hP hX hXo d (ax_rm (d + 1) (h'.1.length - h.1.length) (ax_slt h' - ax_slt h)) (by show d + 2 ≤ d + 1 + 1; omega) (by show 45 * d + 145 ≤ 45 * (d + 1) + 100; omega)
        rw [hnl, hent]
        have hHo : ax_Ho mt.2.1 mt.2.2.2 p l e9 (ax_rm (d + 1) (h'.1.length - h.1.length) (ax_slt h' - ax_slt h)) s m (as.map (ax_rv z)).toArray below meth c G base z (MQ below (ax_Qc G base z r h') (as.map (ax_rv z)).toArray s (h'.1.length - h.1.length) (ax_slt h' - ax_slt h) (fun q => base ≤ q)) h r h' := by
          intro pc H locs Ls' cells slots hk hS hcc hss hrc
          have ec : cells = h'.1.length - h.1.length := by omega
          have es : slots = ax_slt h' - ax_slt h := by omega
          rw [← ec, ← es]
          have hqq : ∀ t : State, t.heap = H → s.WarmedH t.vm → ax_Qc G base z r h' (as.map (ax_rv z)).toArray s (.returned (r.map (ax_rv z))) t := fun t ht _ => ⟨rfl, by rw [ht]; exact hk, hS.F ht⟩
          cases r with
          | none => exact W.vret B.exec hb (B.returns.trans hrc.2) hqq hS.2.2 hrc.1
          | some v =>
            cases v with
            | int x =>
              obtain ⟨h1, ty, h2, h3⟩ := hrc
              exact W.zret B.exec hb (B.returns.trans h2) h3 hqq hS.2.2 h1
            | long x => exact W.lret B.exec hb (B.returns.trans hrc.2) hqq hS.2.2 hrc.1
            | ref x =>
              obtain ⟨h1, ty, h2, h3⟩ := hrc
              exact W.aret B.exec hb (B.returns.trans h2) h3 (Or.inr ⟨_, rfl⟩) hqq hS.2.2 h1
            | float x => exact absurd hrc (fun h => h)
            | double x => exact absurd hrc (fun h => h)
            | null => exact absurd hrc (fun h => h)
            | retAddr x => exact absurd hrc (fun h => h)
        have hW := ax_run_sim (ax_cal_mono hP hX d) hT F hC (h0 := h) (Q := MQ below (ax_Qc G base z r h') (as.map (ax_rv z)).toArray s (h'.1.length - h.1.length) (ax_slt h' - ax_slt h) (fun q => base ≤ q)) (below := below) (e := e9) (by show h'.1.length ≤ h.1.length + (h'.1.length - h.1.length); omega) (by show ax_slt h' ≤ ax_slt h + (ax_slt h' - ax_slt h); omega) hHo n _ hn (Nat.le_refl _) (Nat.le_refl _)
        exact hW s.heap [] Ls 0 0 hok hloc va_S.rf (Nat.zero_add _) (Nat.zero_add _)
      · simp only [if_neg hc] at e; cases e
end
section
/-! THE PROGRAM: its methods by number, a table a method (printed by wip/whole/gen_tables.py) -/
def t_0 : ax_T := [[some (a_aload 0 1), some (a_oinit 4), none, none, some (a_aload 0 5), some (a_iconst 8 7), none, some (a_newa 100 8 9), none, some (a_putR 0 3 0 12), none, none, some (a_aload 0 13), some (a_iconst 8 15), none, some (a_newa 100 8 17)],
  [none, some (a_putR 0 3 1 20), none, none, some (a_vret)]]
def t_1 : ax_T := [[some (a_aload 0 1), some (a_getI 0 3 2 4), none, none, some (a_iconst 8 6), none, some (a_clt 13 9), none, none, some (a_aload 0 10), some (a_callV 0 3 2 0 13), none, none, some (a_aload 0 14), some (a_getR 0 3 0 17), none],
  [none, some (a_aload 0 18), some (a_getI 0 3 2 21), none, none, some (a_iload 1 22), some (a_iast 23), some (a_aload 0 24), some (a_getR 0 3 1 27), none, none, some (a_aload 0 28), some (a_getI 0 3 2 31), none, none, some (a_iload 2 32)],
  [some (a_iast 33), some (a_aload 0 34), some (a_dup 35), some (a_getI 0 3 2 38), none, none, some (a_iconst 1 39), some (a_iadd 40), some (a_putI 0 3 2 43), none, none, some (a_vret)]]
def t_2 : ax_T := [[some (a_iconst 1 1), some (a_istore 1 2), some (a_iload 1 3), some (a_aload 0 4), some (a_getI 0 3 2 7), none, none, some (a_cge 44 10), none, none, some (a_aload 0 11), some (a_getR 0 3 0 14), none, none, some (a_iload 1 15), some (a_iconst 1 16)],
  [some (a_isub 17), some (a_aload 0 18), some (a_getR 0 3 0 21), none, none, some (a_iload 1 22), some (a_iald 23), some (a_iast 24), some (a_aload 0 25), some (a_getR 0 3 1 28), none, none, some (a_iload 1 29), some (a_iconst 1 30), some (a_isub 31), some (a_aload 0 32)],
  [some (a_getR 0 3 1 35), none, none, some (a_iload 1 36), some (a_iald 37), some (a_iast 38), some (a_iinc 1 1 41), none, none, some (a_goto 2), none, none, some (a_aload 0 45), some (a_dup 46), some (a_getI 0 3 2 49), none],
  [none, some (a_iconst 1 50), some (a_isub 51), some (a_putI 0 3 2 54), none, none, some (a_vret)]]
def t_3 : ax_T := [[some (a_aload 0 1), some (a_getI 0 3 2 4), none, none, some (a_zne 9 7), none, none, some (a_iconst 0 8), some (a_zret), some (a_aload 0 10), some (a_dup 11), some (a_getI 0 3 2 14), none, none, some (a_iconst 1 15), some (a_isub 16)],
  [some (a_putI 0 3 2 19), none, none, some (a_aload 0 20), some (a_getR 0 3 0 23), none, none, some (a_aload 0 24), some (a_getI 0 3 2 27), none, none, some (a_iald 28), some (a_iconst (-1) 29), some (a_cne 45 32), none, none],
  [some (a_aload 1 33), some (a_dup 34), some (a_getI 5 5 4 37), none, none, some (a_iconst 1 38), some (a_isub 39), some (a_putI 5 5 4 42), none, none, some (a_goto 68), none, none, some (a_aload 1 46), some (a_getR 5 5 0 49), none],
  [none, some (a_aload 0 50), some (a_getR 0 3 0 53), none, none, some (a_aload 0 54), some (a_getI 0 3 2 57), none, none, some (a_iald 58), some (a_aload 0 59), some (a_getR 0 3 1 62), none, none, some (a_aload 0 63), some (a_getI 0 3 2 66)],
  [none, none, some (a_iald 67), some (a_iast 68), some (a_iconst 1 69), some (a_zret)]]
def t_4 : ax_T := [[some (a_aload 0 1), some (a_oinit 4), none, none, some (a_aload 0 5), some (a_iconst 3 6), some (a_newa 100 3 8), none, some (a_putR 1 7 0 11), none, none, some (a_aload 0 12), some (a_iconst 7 14), none, some (a_newa 100 7 16), none],
  [some (a_putR 1 7 1 19), none, none, some (a_aload 0 20), some (a_iconst 7 22), none, some (a_newa 100 7 24), none, some (a_putR 1 7 2 27), none, none, some (a_vret)]]
def t_5 : ax_T := [[some (a_aload 0 1), some (a_iconst 1 2), some (a_putZ 1 7 3 5), none, none, some (a_aload 0 6), some (a_iconst 0 7), some (a_putZ 1 7 4 10), none, none, some (a_iconst 0 11), some (a_istore 2 12), some (a_iload 2 13), some (a_aload 1 14), some (a_getI 6 7 5 17), none],
  [none, some (a_cge 38 20), none, none, some (a_aload 0 21), some (a_getR 1 7 0 24), none, none, some (a_iload 2 25), some (a_aload 1 26), some (a_getR 6 7 1 29), none, none, some (a_iload 2 30), some (a_iald 31), some (a_iast 32)],
  [some (a_iinc 2 1 35), none, none, some (a_goto 12), none, none, some (a_iconst 0 39), some (a_istore 2 40), some (a_iload 2 41), some (a_aload 1 42), some (a_getI 6 7 4 45), none, none, some (a_cge 62 48), none, none],
  [some (a_aload 0 49), some (a_getR 1 7 1 52), none, none, some (a_iload 2 53), some (a_iconst (-4) 55), none, some (a_iast 56), some (a_iinc 2 1 59), none, none, some (a_goto 40), none, none, some (a_aload 0 63), some (a_aload 1 64)],
  [some (a_iconst 0 65), some (a_iconst 0 66), some (a_iconst 0 67), some (a_callV 1 7 6 4 70), none, none, some (a_vret)]]
def t_6 : ax_T := [[some (a_aload 0 1), some (a_getI 1 7 4 4), none, none, some (a_zeq 33 7), none, none, some (a_iload 3 8), some (a_aload 0 9), some (a_getI 1 7 5 12), none, none, some (a_cgt 32 15), none, none, some (a_iload 3 16)],
  [some (a_aload 0 17), some (a_getI 1 7 5 20), none, none, some (a_cne 33 23), none, none, some (a_iload 4 25), none, some (a_aload 0 26), some (a_getI 1 7 6 29), none, none, some (a_clt 33 32), none, none],
  [some (a_vret), some (a_aload 0 34), some (a_aload 1 35), some (a_callV 1 7 7 1 38), none, none, some (a_istore 5 40), none, some (a_iload 5 42), none, some (a_zne 54 45), none, none, some (a_aload 0 46), some (a_aload 1 47), some (a_iload 3 48)],
  [some (a_iload 4 50), none, some (a_callV 1 7 8 3 53), none, none, some (a_vret), some (a_iload 2 55), some (a_aload 1 56), some (a_getI 6 7 4 59), none, none, some (a_cge 72 62), none, none, some (a_aload 1 63), some (a_iload 2 64)],
  [some (a_callV 6 7 29 1 67), none, none, some (a_iload 5 69), none, some (a_cge 73 72), none, none, some (a_vret), some (a_aload 1 74), some (a_getR 6 7 0 77), none, none, some (a_iload 2 78), some (a_iald 79), some (a_istore 6 81)],
  [none, some (a_iconst 0 82), some (a_istore 7 84), none, some (a_iload 7 86), none, some (a_aload 1 87), some (a_getI 6 7 5 90), none, none, some (a_cge 165 93), none, none, some (a_aload 0 94), some (a_getR 1 7 0 97), none],
  [none, some (a_iload 7 99), none, some (a_iald 100), some (a_zle 159 103), none, none, some (a_aload 0 104), some (a_getR 1 7 0 107), none, none, some (a_iload 7 109), none, some (a_dup2 110), some (a_iald 111), some (a_iload 6 113)],
  [none, some (a_isub 114), some (a_iast 115), some (a_aload 0 116), some (a_getR 1 7 1 119), none, none, some (a_iload 2 120), some (a_iload 7 122), none, some (a_iast 123), some (a_aload 0 124), some (a_aload 1 125), some (a_iload 2 126), some (a_iconst 1 127), some (a_iadd 128)],
  [some (a_iload 3 129), some (a_iconst 1 130), some (a_iadd 131), some (a_iload 4 133), none, some (a_iload 6 135), none, some (a_iadd 136), some (a_callV 1 7 6 4 139), none, none, some (a_aload 0 140), some (a_getR 1 7 1 143), none, none, some (a_iload 2 144)],
  [some (a_iconst (-4) 146), none, some (a_iast 147), some (a_aload 0 148), some (a_getR 1 7 0 151), none, none, some (a_iload 7 153), none, some (a_dup2 154), some (a_iald 155), some (a_iload 6 157), none, some (a_iadd 158), some (a_iast 159), some (a_iinc 7 1 162)],
  [none, none, some (a_goto 84), none, none, some (a_aload 0 166), some (a_aload 1 167), some (a_iload 2 168), some (a_iconst 1 169), some (a_iadd 170), some (a_iload 3 171), some (a_iload 4 173), none, some (a_callV 1 7 6 4 176), none, none],
  [some (a_vret)]]
def t_7 : ax_T := [[some (a_iconst 0 1), some (a_istore 2 2), some (a_iconst 0 3), some (a_istore 3 4), some (a_iload 3 5), some (a_aload 1 6), some (a_getI 6 7 5 9), none, none, some (a_cge 31 12), none, none, some (a_iload 2 13), some (a_iconst 0 14), some (a_aload 0 15), some (a_getR 1 7 0 18)],
  [none, none, some (a_iload 3 19), some (a_iald 20), some (a_callS 175 2 23), none, none, some (a_iadd 24), some (a_istore 2 25), some (a_iinc 3 1 28), none, none, some (a_goto 4), none, none, some (a_iload 2 32)],
  [some (a_iret)]]
def t_8 : ax_T := [[some (a_aload 0 1), some (a_iconst 1 2), some (a_putZ 1 7 4 5), none, none, some (a_aload 0 6), some (a_iload 2 7), some (a_putI 1 7 5 10), none, none, some (a_aload 0 11), some (a_iload 3 12), some (a_putI 1 7 6 15), none, none, some (a_iconst 0 16)],
  [some (a_istore 4 18), none, some (a_iload 4 20), none, some (a_aload 1 21), some (a_getI 6 7 4 24), none, none, some (a_cge 47 27), none, none, some (a_aload 0 28), some (a_getR 1 7 2 31), none, none, some (a_iload 4 33)],
  [none, some (a_aload 0 34), some (a_getR 1 7 1 37), none, none, some (a_iload 4 39), none, some (a_iald 40), some (a_iast 41), some (a_iinc 4 1 44), none, none, some (a_goto 18), none, none, some (a_vret)]]
def t_9 : ax_T := [[some (a_aload 0 1), some (a_oinit 4), none, none, some (a_aload 0 5), some (a_iconst 2 6), some (a_newa 102 2 9), none, none, some (a_putR 2 2 0 12), none, none, some (a_iconst 0 13), some (a_istore 1 14), some (a_iload 1 15), some (a_iconst 2 16)],
  [some (a_cge 38 19), none, none, some (a_aload 0 20), some (a_getR 2 2 0 23), none, none, some (a_iload 1 24), some (a_new 5 5 27), none, none, some (a_dup 28), some (a_callV 5 5 19 0 31), none, none, some (a_aast 32)],
  [some (a_iinc 1 1 35), none, none, some (a_goto 14), none, none, some (a_vret)]]
def t_10 : ax_T := [[some (a_aload 0 1), some (a_getI 2 2 1 4), none, none, some (a_iconst 2 5), some (a_clt 10 8), none, none, some (a_iconst 0 9), some (a_zret), some (a_aload 0 11), some (a_getR 2 2 0 14), none, none, some (a_aload 0 15), some (a_getI 2 2 1 18)],
  [none, none, some (a_aald 19), some (a_aload 1 20), some (a_callV 5 5 22 1 23), none, none, some (a_aload 0 24), some (a_dup 25), some (a_getI 2 2 1 28), none, none, some (a_iconst 1 29), some (a_iadd 30), some (a_putI 2 2 1 33), none],
  [none, some (a_iconst 1 34), some (a_zret)]]
def t_11 : ax_T := [[some (a_aload 0 1), some (a_getI 2 2 1 4), none, none, some (a_zne 9 7), none, none, some (a_iconst 0 8), some (a_zret), some (a_aload 0 10), some (a_dup 11), some (a_getI 2 2 1 14), none, none, some (a_iconst 1 15), some (a_isub 16)],
  [some (a_putI 2 2 1 19), none, none, some (a_aload 1 20), some (a_aload 0 21), some (a_getR 2 2 0 24), none, none, some (a_aload 0 25), some (a_getI 2 2 1 28), none, none, some (a_aald 29), some (a_callV 5 5 22 1 32), none, none],
  [some (a_iconst 1 33), some (a_zret)]]
def t_12 : ax_T := [[some (a_aload 0 1), some (a_oinit 4), none, none, some (a_aload 0 5), some (a_new 7 10 8), none, none, some (a_dup 9), some (a_callV 7 10 30 0 12), none, none, some (a_putR 3 2 0 15), none, none, some (a_aload 0 16)],
  [some (a_new 6 7 19), none, none, some (a_dup 20), some (a_callV 6 7 23 0 23), none, none, some (a_putR 3 2 1 26), none, none, some (a_vret)]]
def t_13 : ax_T := [[some (a_aload 0 1), some (a_getR 3 2 0 4), none, none, some (a_callV 7 10 31 0 7), none, none, some (a_aload 0 8), some (a_getR 3 2 1 11), none, none, some (a_callV 6 7 24 0 14), none, none, some (a_vret)]]
def t_14 : ax_T := [[some (a_aload 0 1), some (a_oinit 4), none, none, some (a_aload 0 5), some (a_iconst 6 7), none, some (a_newa 100 6 9), none, some (a_putR 4 3 0 12), none, none, some (a_aload 0 13), some (a_iconst 6 15), none, some (a_newa 100 6 17)],
  [none, some (a_putR 4 3 1 20), none, none, some (a_vret)]]
def t_15 : ax_T := [[some (a_aload 0 1), some (a_getI 4 3 2 4), none, none, some (a_iconst 6 6), none, some (a_clt 11 9), none, none, some (a_iconst 0 10), some (a_zret), some (a_aload 0 12), some (a_getR 4 3 0 15), none, none, some (a_aload 0 16)],
  [some (a_getI 4 3 2 19), none, none, some (a_iload 1 20), some (a_iast 21), some (a_aload 0 22), some (a_getR 4 3 1 25), none, none, some (a_aload 0 26), some (a_getI 4 3 2 29), none, none, some (a_iload 2 30), some (a_iast 31), some (a_aload 0 32)],
  [some (a_dup 33), some (a_getI 4 3 2 36), none, none, some (a_iconst 1 37), some (a_iadd 38), some (a_putI 4 3 2 41), none, none, some (a_iconst 1 42), some (a_zret)]]
def t_16 : ax_T := [[some (a_iconst 0 1), some (a_istore 2 2), some (a_iconst 0 3), some (a_istore 3 4), some (a_iload 3 5), some (a_aload 1 6), some (a_getI 7 10 8 9), none, none, some (a_cge 33 12), none, none, some (a_aload 0 13), some (a_aload 1 14), some (a_iload 3 15), some (a_callV 4 3 17 2 18)],
  [none, none, some (a_zeq 27 21), none, none, some (a_iload 2 22), some (a_iconst 1 23), some (a_iload 3 24), some (a_ishl 25), some (a_ior 26), some (a_istore 2 27), some (a_iinc 3 1 30), none, none, some (a_goto 4), none],
  [none, some (a_iload 2 34), some (a_iret)]]
def t_17 : ax_T := [[some (a_iconst 0 1), some (a_istore 3 2), some (a_iload 3 3), some (a_aload 0 4), some (a_getI 4 3 2 7), none, none, some (a_cge 38 10), none, none, some (a_aload 1 11), some (a_iload 2 12), some (a_aload 0 13), some (a_getR 4 3 0 16), none, none],
  [some (a_iload 3 17), some (a_iald 18), some (a_callV 7 10 41 2 21), none, none, some (a_aload 0 22), some (a_getR 4 3 1 25), none, none, some (a_iload 3 26), some (a_iald 27), some (a_ceq 32 30), none, none, some (a_iconst 0 31), some (a_zret)],
  [some (a_iinc 3 1 35), none, none, some (a_goto 2), none, none, some (a_iconst 1 39), some (a_zret)]]
def t_18 : ax_T := [[some (a_iconst 0 1), some (a_istore 3 2), some (a_iconst 0 3), some (a_istore 4 5), none, some (a_iload 4 7), none, some (a_aload 0 8), some (a_getI 7 10 8 11), none, none, some (a_cge 95 14), none, none, some (a_iconst 0 15), some (a_istore 5 17)],
  [none, some (a_iconst 0 18), some (a_istore 6 20), none, some (a_iload 6 22), none, some (a_aload 0 23), some (a_getI 7 10 8 26), none, none, some (a_cge 82 29), none, none, some (a_iload 1 30), some (a_iload 4 32), none],
  [some (a_ishr 33), some (a_iload 1 34), some (a_iload 6 36), none, some (a_ishr 37), some (a_iand 38), some (a_iconst 1 39), some (a_iand 40), some (a_iconst 1 41), some (a_cne 48 44), none, none, some (a_iconst 1 45), some (a_goto 49), none, none],
  [some (a_iconst 0 49), some (a_istore 7 51), none, some (a_iload 7 53), none, some (a_zeq 76 56), none, none, some (a_aload 0 57), some (a_iload 4 59), none, some (a_iload 2 60), some (a_callV 7 10 41 2 63), none, none, some (a_aload 0 64)],
  [some (a_iload 6 66), none, some (a_iload 2 67), some (a_callV 7 10 41 2 70), none, none, some (a_cne 76 73), none, none, some (a_iinc 5 1 76), none, none, some (a_iinc 6 1 79), none, none, some (a_goto 20)],
  [none, none, some (a_iload 3 83), some (a_iload 5 85), none, some (a_callS 175 2 88), none, none, some (a_istore 3 89), some (a_iinc 4 1 92), none, none, some (a_goto 5), none, none, some (a_iload 3 96)],
  [some (a_iret)]]
def t_19 : ax_T := [[some (a_aload 0 1), some (a_oinit 4), none, none, some (a_aload 0 5), some (a_iconst 6 7), none, some (a_newa 100 6 9), none, some (a_putR 5 5 0 12), none, none, some (a_aload 0 13), some (a_iconst 9 15), none, some (a_newa 100 9 17)],
  [none, some (a_putR 5 5 1 20), none, none, some (a_aload 0 21), some (a_iconst 9 23), none, some (a_newa 100 9 25), none, some (a_putR 5 5 2 28), none, none, some (a_aload 0 29), some (a_iconst 9 31), none, some (a_newa 100 9 33)],
  [none, some (a_putR 5 5 3 36), none, none, some (a_vret)]]
def t_20 : ax_T := [[some (a_aload 0 1), some (a_getI 5 5 4 4), none, none, some (a_iconst 9 6), none, some (a_clt 11 9), none, none, some (a_iconst 0 10), some (a_zret), some (a_aload 0 12), some (a_getR 5 5 1 15), none, none, some (a_aload 0 16)],
  [some (a_getI 5 5 4 19), none, none, some (a_iload 1 20), some (a_iast 21), some (a_aload 0 22), some (a_getR 5 5 2 25), none, none, some (a_aload 0 26), some (a_getI 5 5 4 29), none, none, some (a_iload 2 30), some (a_iast 31), some (a_aload 0 32)],
  [some (a_getR 5 5 3 35), none, none, some (a_aload 0 36), some (a_getI 5 5 4 39), none, none, some (a_iload 3 40), some (a_iast 41), some (a_aload 0 42), some (a_dup 43), some (a_getI 5 5 4 46), none, none, some (a_iconst 1 47), some (a_iadd 48)],
  [some (a_putI 5 5 4 51), none, none, some (a_iconst 1 52), some (a_zret)]]
def t_21 : ax_T := [[some (a_iload 3 1), some (a_istore 4 3), none, some (a_iconst 6 5), none, some (a_istore 5 7), none, some (a_iconst 0 8), some (a_istore 6 10), none, some (a_iload 6 12), none, some (a_aload 0 13), some (a_getI 5 5 4 16), none, none],
  [some (a_cge 77 19), none, none, some (a_aload 0 20), some (a_getR 5 5 1 23), none, none, some (a_iload 6 25), none, some (a_iald 26), some (a_iload 1 27), some (a_cne 71 30), none, none, some (a_aload 0 31), some (a_getR 5 5 2 34)],
  [none, none, some (a_iload 6 36), none, some (a_iald 37), some (a_iload 2 38), some (a_cgt 71 41), none, none, some (a_aload 0 42), some (a_getR 5 5 2 45), none, none, some (a_iload 6 47), none, some (a_iald 48)],
  [some (a_iload 5 50), none, some (a_clt 71 53), none, none, some (a_aload 0 54), some (a_getR 5 5 2 57), none, none, some (a_iload 6 59), none, some (a_iald 60), some (a_istore 5 62), none, some (a_aload 0 63), some (a_getR 5 5 3 66)],
  [none, none, some (a_iload 6 68), none, some (a_iald 69), some (a_istore 4 71), none, some (a_iinc 6 1 74), none, none, some (a_goto 10), none, none, some (a_iload 4 79), none, some (a_iret)]]
def t_22 : ax_T := [[some (a_aload 1 1), some (a_getR 5 5 0 4), none, none, some (a_iconst 0 5), some (a_aload 0 6), some (a_getR 5 5 0 9), none, none, some (a_iconst 0 10), some (a_iconst 6 12), none, some (a_acpy 15), none, none, some (a_aload 1 16)],
  [some (a_getR 5 5 1 19), none, none, some (a_iconst 0 20), some (a_aload 0 21), some (a_getR 5 5 1 24), none, none, some (a_iconst 0 25), some (a_iconst 9 27), none, some (a_acpy 30), none, none, some (a_aload 1 31), some (a_getR 5 5 2 34)],
  [none, none, some (a_iconst 0 35), some (a_aload 0 36), some (a_getR 5 5 2 39), none, none, some (a_iconst 0 40), some (a_iconst 9 42), none, some (a_acpy 45), none, none, some (a_aload 1 46), some (a_getR 5 5 3 49), none],
  [none, some (a_iconst 0 50), some (a_aload 0 51), some (a_getR 5 5 3 54), none, none, some (a_iconst 0 55), some (a_iconst 9 57), none, some (a_acpy 60), none, none, some (a_aload 0 61), some (a_aload 1 62), some (a_getI 5 5 4 65), none],
  [none, some (a_putI 5 5 4 68), none, none, some (a_vret)]]
def t_23 : ax_T := [[some (a_aload 0 1), some (a_oinit 4), none, none, some (a_aload 0 5), some (a_iconst 7 7), none, some (a_newa 100 7 9), none, some (a_putR 6 7 0 12), none, none, some (a_aload 0 13), some (a_iconst 3 14), some (a_newa 100 3 16), none],
  [some (a_putR 6 7 1 19), none, none, some (a_aload 0 20), some (a_iconst 6 22), none, some (a_newa 100 6 24), none, some (a_putR 6 7 2 27), none, none, some (a_aload 0 28), some (a_iconst 6 30), none, some (a_newa 100 6 32), none],
  [some (a_putR 6 7 3 35), none, none, some (a_vret)]]
def t_24 : ax_T := [[some (a_aload 0 1), some (a_iconst 0 2), some (a_putI 6 7 4 5), none, none, some (a_aload 0 6), some (a_iconst 0 7), some (a_putI 6 7 5 10), none, none, some (a_aload 0 11), some (a_iconst 0 12), some (a_putI 6 7 6 15), none, none, some (a_vret)]]
def t_25 : ax_T := [[some (a_aload 0 1), some (a_getI 6 7 4 4), none, none, some (a_iconst 7 6), none, some (a_cge 19 9), none, none, some (a_iload 1 10), some (a_iconst 1 11), some (a_iconst 40 13), none, some (a_callS 100 3 16), none, none],
  [some (a_zne 21 19), none, none, some (a_iconst 0 20), some (a_zret), some (a_aload 0 22), some (a_getR 6 7 0 25), none, none, some (a_aload 0 26), some (a_getI 6 7 4 29), none, none, some (a_iload 1 30), some (a_iast 31), some (a_aload 0 32)],
  [some (a_dup 33), some (a_getI 6 7 4 36), none, none, some (a_iconst 1 37), some (a_iadd 38), some (a_putI 6 7 4 41), none, none, some (a_iconst 1 42), some (a_zret)]]
def t_26 : ax_T := [[some (a_aload 0 1), some (a_getI 6 7 5 4), none, none, some (a_iconst 3 5), some (a_cge 18 8), none, none, some (a_iload 1 9), some (a_iconst 1 10), some (a_iconst 60 12), none, some (a_callS 100 3 15), none, none, some (a_zne 20 18)],
  [none, none, some (a_iconst 0 19), some (a_zret), some (a_aload 0 21), some (a_getR 6 7 1 24), none, none, some (a_aload 0 25), some (a_getI 6 7 5 28), none, none, some (a_iload 1 29), some (a_iast 30), some (a_aload 0 31), some (a_dup 32)],
  [some (a_getI 6 7 5 35), none, none, some (a_iconst 1 36), some (a_iadd 37), some (a_putI 6 7 5 40), none, none, some (a_iconst 1 41), some (a_zret)]]
def t_27 : ax_T := [[some (a_aload 0 1), some (a_getI 6 7 6 4), none, none, some (a_iconst 6 6), none, some (a_cge 29 9), none, none, some (a_iload 1 10), some (a_iconst 1 11), some (a_iconst 9 13), none, some (a_callS 100 3 16), none, none],
  [some (a_zeq 29 19), none, none, some (a_iload 2 20), some (a_iconst 1 21), some (a_iconst 60 23), none, some (a_callS 100 3 26), none, none, some (a_zne 31 29), none, none, some (a_iconst 0 30), some (a_zret), some (a_aload 0 32)],
  [some (a_getR 6 7 2 35), none, none, some (a_aload 0 36), some (a_getI 6 7 6 39), none, none, some (a_iload 1 40), some (a_iast 41), some (a_aload 0 42), some (a_getR 6 7 3 45), none, none, some (a_aload 0 46), some (a_getI 6 7 6 49), none],
  [none, some (a_iload 2 50), some (a_iast 51), some (a_aload 0 52), some (a_dup 53), some (a_getI 6 7 6 56), none, none, some (a_iconst 1 57), some (a_iadd 58), some (a_putI 6 7 6 61), none, none, some (a_iconst 1 62), some (a_zret)]]
def t_28 : ax_T := [[some (a_iconst 0 1), some (a_istore 1 2), some (a_iconst 0 3), some (a_istore 2 4), some (a_iload 2 5), some (a_aload 0 6), some (a_getI 6 7 5 9), none, none, some (a_cge 27 12), none, none, some (a_iload 1 13), some (a_aload 0 14), some (a_getR 6 7 1 17), none],
  [none, some (a_iload 2 18), some (a_iald 19), some (a_iadd 20), some (a_istore 1 21), some (a_iinc 2 1 24), none, none, some (a_goto 4), none, none, some (a_iload 1 28), some (a_iret)]]
def t_29 : ax_T := [[some (a_iconst 0 1), some (a_istore 2 2), some (a_iload 1 3), some (a_istore 3 4), some (a_iload 3 5), some (a_aload 0 6), some (a_getI 6 7 4 9), none, none, some (a_cge 27 12), none, none, some (a_iload 2 13), some (a_aload 0 14), some (a_getR 6 7 0 17), none],
  [none, some (a_iload 3 18), some (a_iald 19), some (a_iadd 20), some (a_istore 2 21), some (a_iinc 3 1 24), none, none, some (a_goto 4), none, none, some (a_iload 2 28), some (a_iret)]]
def t_30 : ax_T := [[some (a_aload 0 1), some (a_oinit 4), none, none, some (a_aload 0 5), some (a_iconst 6 7), none, some (a_newa 100 6 9), none, some (a_putR 7 10 0 12), none, none, some (a_aload 0 13), some (a_iconst 6 15), none, some (a_newa 100 6 17)],
  [none, some (a_putR 7 10 1 20), none, none, some (a_aload 0 21), some (a_iconst 6 23), none, some (a_newa 100 6 25), none, some (a_putR 7 10 2 28), none, none, some (a_aload 0 29), some (a_new 5 5 32), none, none],
  [some (a_dup 33), some (a_callV 5 5 19 0 36), none, none, some (a_putR 7 10 3 39), none, none, some (a_aload 0 40), some (a_iconst 6 42), none, some (a_newa 100 6 44), none, some (a_putR 7 10 4 47), none, none, some (a_aload 0 48)],
  [some (a_iconst 6 50), none, some (a_newa 100 6 52), none, some (a_putR 7 10 5 55), none, none, some (a_aload 0 56), some (a_iconst 6 58), none, some (a_newa 100 6 60), none, some (a_putR 7 10 6 63), none, none, some (a_aload 0 64)],
  [some (a_iconst 6 66), none, some (a_newa 100 6 68), none, some (a_putR 7 10 7 71), none, none, some (a_vret)]]
def t_31 : ax_T := [[some (a_aload 0 1), some (a_iconst 0 2), some (a_putI 7 10 8 5), none, none, some (a_aload 0 6), some (a_iconst 0 7), some (a_putI 7 10 9 10), none, none, some (a_aload 0 11), some (a_getR 7 10 3 14), none, none, some (a_iconst 0 15), some (a_putI 5 5 4 18)],
  [none, none, some (a_vret)]]
def t_32 : ax_T := [[some (a_iload 1 1), some (a_zlt 16 4), none, none, some (a_iload 1 5), some (a_aload 0 6), some (a_getI 7 10 8 9), none, none, some (a_cge 16 12), none, none, some (a_iconst 1 13), some (a_goto 17), none, none],
  [some (a_iconst 0 17), some (a_zret)]]
def t_33 : ax_T := [[some (a_aload 0 1), some (a_getI 7 10 8 4), none, none, some (a_iconst 6 6), none, some (a_cge 46 9), none, none, some (a_iload 1 10), some (a_callS 99 1 13), none, none, some (a_zeq 46 16), none, none],
  [some (a_iload 2 17), some (a_iconst 1 18), some (a_iconst 9 20), none, some (a_callS 100 3 23), none, none, some (a_zeq 46 26), none, none, some (a_iload 3 27), some (a_iconst 0 28), some (a_iconst 3 29), some (a_callS 100 3 32), none, none],
  [some (a_zeq 46 35), none, none, some (a_iload 4 37), none, some (a_iconst 0 38), some (a_iconst 20 40), none, some (a_callS 100 3 43), none, none, some (a_zne 48 46), none, none, some (a_iconst 0 47), some (a_zret)],
  [some (a_aload 0 49), some (a_getR 7 10 0 52), none, none, some (a_aload 0 53), some (a_getI 7 10 8 56), none, none, some (a_iload 1 57), some (a_iast 58), some (a_aload 0 59), some (a_getR 7 10 1 62), none, none, some (a_aload 0 63), some (a_getI 7 10 8 66)],
  [none, none, some (a_iload 2 67), some (a_iast 68), some (a_aload 0 69), some (a_getR 7 10 2 72), none, none, some (a_aload 0 73), some (a_getI 7 10 8 76), none, none, some (a_iload 3 77), some (a_iast 78), some (a_aload 0 79), some (a_getR 7 10 3 82)],
  [none, none, some (a_getR 5 5 0 85), none, none, some (a_aload 0 86), some (a_getI 7 10 8 89), none, none, some (a_iload 4 91), none, some (a_iast 92), some (a_aload 0 93), some (a_dup 94), some (a_getI 7 10 8 97), none],
  [none, some (a_iconst 1 98), some (a_iadd 99), some (a_putI 7 10 8 102), none, none, some (a_iconst 1 103), some (a_zret)]]
def t_34 : ax_T := [[some (a_aload 0 1), some (a_getI 7 10 9 4), none, none, some (a_iconst 6 6), none, some (a_cge 34 9), none, none, some (a_aload 0 10), some (a_iload 1 11), some (a_callV 7 10 32 1 14), none, none, some (a_zeq 34 17), none],
  [none, some (a_iload 2 18), some (a_callS 97 1 21), none, none, some (a_zeq 34 24), none, none, some (a_iload 3 25), some (a_iconst 0 26), some (a_iconst 60 28), none, some (a_callS 100 3 31), none, none, some (a_zne 36 34)],
  [none, none, some (a_iconst 0 35), some (a_zret), some (a_aload 0 37), some (a_getR 7 10 4 40), none, none, some (a_aload 0 41), some (a_getI 7 10 9 44), none, none, some (a_iload 1 45), some (a_iast 46), some (a_aload 0 47), some (a_getR 7 10 5 50)],
  [none, none, some (a_aload 0 51), some (a_getI 7 10 9 54), none, none, some (a_iload 2 55), some (a_iast 56), some (a_aload 0 57), some (a_getR 7 10 6 60), none, none, some (a_aload 0 61), some (a_getI 7 10 9 64), none, none],
  [some (a_iload 3 65), some (a_iast 66), some (a_aload 0 67), some (a_dup 68), some (a_getI 7 10 9 71), none, none, some (a_iconst 1 72), some (a_iadd 73), some (a_putI 7 10 9 76), none, none, some (a_iconst 1 77), some (a_zret)]]
def t_35 : ax_T := [[some (a_aload 0 1), some (a_getR 7 10 3 4), none, none, some (a_iload 1 5), some (a_iload 2 6), some (a_aload 0 7), some (a_getR 7 10 0 10), none, none, some (a_iload 1 11), some (a_iald 12), some (a_callV 5 5 21 3 15), none, none, some (a_iret)]]
def t_36 : ax_T := [[some (a_iconst 0 1), some (a_istore 2 2), some (a_iload 2 3), some (a_aload 0 4), some (a_getI 7 10 8 7), none, none, some (a_cge 28 10), none, none, some (a_aload 0 11), some (a_getR 7 10 7 14), none, none, some (a_iload 2 15), some (a_aload 0 16)],
  [some (a_iload 2 17), some (a_iload 1 18), some (a_callV 7 10 35 2 21), none, none, some (a_iast 22), some (a_iinc 2 1 25), none, none, some (a_goto 2), none, none, some (a_aload 0 29), some (a_getR 7 10 7 32), none, none],
  [some (a_aret)]]
def t_37 : ax_T := [[some (a_iconst 0 1), some (a_istore 3 2), some (a_iload 3 3), some (a_aload 0 4), some (a_getI 7 10 8 7), none, none, some (a_cge 60 10), none, none, some (a_lconst (7919) 13), none, none, some (a_iload 1 14), some (a_i2l 15), some (a_lmul 16)],
  [some (a_lconst (6151) 19), none, none, some (a_iload 2 20), some (a_i2l 21), some (a_lmul 22), some (a_ladd 23), some (a_lconst (3571) 26), none, none, some (a_iload 3 27), some (a_i2l 28), some (a_lmul 29), some (a_ladd 30), some (a_lconst 1 31), some (a_ladd 32)],
  [some (a_lstore 4 34), none, some (a_aload 0 35), some (a_getR 7 10 7 38), none, none, some (a_iload 3 39), some (a_lload 4 41), none, some (a_lload 4 43), none, some (a_lmul 44), some (a_lconst (65521) 47), none, none, some (a_lrem 48)],
  [some (a_lconst (61) 51), none, none, some (a_lrem 52), some (a_l2i 53), some (a_iast 54), some (a_iinc 3 1 57), none, none, some (a_goto 2), none, none, some (a_aload 0 61), some (a_getR 7 10 7 64), none, none],
  [some (a_aret)]]
def t_38 : ax_T := [[some (a_aload 0 1), some (a_getR 7 10 1 4), none, none, some (a_iload 1 5), some (a_iald 6), some (a_iload 2 7), some (a_iconst 12 9), none, some (a_isub 10), some (a_callS 174 1 13), none, none, some (a_imul 14), some (a_iconst 2 15), some (a_idiv 16)],
  [some (a_istore 3 17), some (a_aload 0 18), some (a_getR 7 10 2 21), none, none, some (a_iload 1 22), some (a_iald 23), some (a_iconst 2 24), some (a_cne 31 27), none, none, some (a_iconst 2 28), some (a_iload 3 29), some (a_imul 30), some (a_iret), some (a_iload 2 32)],
  [some (a_iconst 7 34), none, some (a_cle 43 37), none, none, some (a_iload 2 38), some (a_iconst 17 40), none, some (a_clt 47 43), none, none, some (a_iconst 1 44), some (a_goto 48), none, none, some (a_iconst 0 48)],
  [some (a_istore 4 50), none, some (a_aload 0 51), some (a_getR 7 10 2 54), none, none, some (a_iload 1 55), some (a_iald 56), some (a_iconst 3 57), some (a_cne 71 60), none, none, some (a_iload 4 62), none, some (a_zeq 71 65), none],
  [none, some (a_iload 3 66), some (a_iconst 1 67), some (a_iadd 68), some (a_goto 72), none, none, some (a_iload 3 72), some (a_iret)]]
def t_39 : ax_T := [[some (a_iconst 0 1), some (a_aload 0 2), some (a_iload 1 3), some (a_iload 2 4), some (a_callV 7 10 38 2 7), none, none, some (a_aload 0 8), some (a_getR 7 10 3 11), none, none, some (a_getR 5 5 0 14), none, none, some (a_iload 1 15), some (a_iald 16)],
  [some (a_isub 17), some (a_callS 175 2 20), none, none, some (a_iret)]]
def t_40 : ax_T := [[some (a_aload 0 1), some (a_getR 7 10 2 4), none, none, some (a_iload 1 5), some (a_iald 6), some (a_iconst 1 7), some (a_cne 16 10), none, none, some (a_iload 2 11), some (a_iconst 3 12), some (a_iadd 13), some (a_goto 17), none, none],
  [some (a_iload 2 17), some (a_istore 3 18), some (a_iload 3 19), some (a_iconst 12 21), none, some (a_cge 28 24), none, none, some (a_iconst (-1) 25), some (a_goto 29), none, none, some (a_iconst 1 29), some (a_iret)]]
def t_41 : ax_T := [[some (a_aload 0 1), some (a_iload 1 2), some (a_iload 2 3), some (a_callV 7 10 35 2 6), none, none, some (a_aload 0 7), some (a_iload 1 8), some (a_iload 2 9), some (a_callV 7 10 40 2 12), none, none, some (a_aload 0 13), some (a_iload 1 14), some (a_iload 2 15), some (a_callV 7 10 39 2 18)],
  [none, none, some (a_imul 19), some (a_iadd 20), some (a_iret)]]
def t_42 : ax_T := [[some (a_aload 0 1), some (a_iload 1 2), some (a_iload 2 3), some (a_callV 7 10 40 2 6), none, none, some (a_zge 18 9), none, none, some (a_aload 0 10), some (a_iload 1 11), some (a_iload 2 12), some (a_callV 7 10 41 2 15), none, none, some (a_goto 26)],
  [none, none, some (a_aload 0 19), some (a_iload 1 20), some (a_iload 2 21), some (a_callV 7 10 35 2 24), none, none, some (a_iconst 1 25), some (a_iadd 26), some (a_iret)]]
def t_43 : ax_T := [[some (a_aload 0 1), some (a_iload 1 2), some (a_iload 2 3), some (a_callV 7 10 40 2 6), none, none, some (a_zge 20 9), none, none, some (a_aload 0 10), some (a_iload 1 11), some (a_iload 2 12), some (a_callV 7 10 35 2 15), none, none, some (a_iconst 1 16)],
  [some (a_isub 17), some (a_goto 26), none, none, some (a_aload 0 21), some (a_iload 1 22), some (a_iload 2 23), some (a_callV 7 10 41 2 26), none, none, some (a_iret)]]
def t_44 : ax_T := [[some (a_iconst 0 1), some (a_istore 3 2), some (a_iconst 0 3), some (a_istore 4 5), none, some (a_iload 4 7), none, some (a_aload 0 8), some (a_getI 7 10 8 11), none, none, some (a_cge 63 14), none, none, some (a_iload 1 15), some (a_aload 0 16)],
  [some (a_iload 4 18), none, some (a_iload 2 19), some (a_callV 7 10 35 2 22), none, none, some (a_isub 23), some (a_aload 0 24), some (a_iload 4 26), none, some (a_iload 2 27), some (a_callV 7 10 40 2 30), none, none, some (a_imul 31), some (a_istore 5 33)],
  [none, some (a_iload 5 35), none, some (a_zle 57 38), none, none, some (a_iload 5 40), none, some (a_aload 0 41), some (a_iload 4 43), none, some (a_iload 2 44), some (a_callV 7 10 39 2 47), none, none, some (a_cgt 57 50)],
  [none, none, some (a_iload 3 51), some (a_iconst 1 52), some (a_iload 4 54), none, some (a_ishl 55), some (a_ior 56), some (a_istore 3 57), some (a_iinc 4 1 60), none, none, some (a_goto 5), none, none, some (a_iload 3 64)],
  [some (a_iret)]]
def t_45 : ax_T := [[some (a_aload 0 1), some (a_iload 1 2), some (a_iload 2 3), some (a_callV 7 10 40 2 6), none, none, some (a_istore 4 8), none, some (a_aload 0 9), some (a_iload 1 10), some (a_iload 2 11), some (a_callV 7 10 39 2 14), none, none, some (a_istore 5 16), none],
  [some (a_iconst 0 17), some (a_istore 6 19), none, some (a_iconst 0 20), some (a_istore 7 22), none, some (a_iload 7 24), none, some (a_aload 0 25), some (a_getI 7 10 8 28), none, none, some (a_cge 71 31), none, none, some (a_aload 3 32)],
  [some (a_iload 7 34), none, some (a_iald 35), some (a_aload 3 36), some (a_iload 1 37), some (a_iald 38), some (a_isub 39), some (a_iload 4 41), none, some (a_imul 42), some (a_istore 8 44), none, some (a_iload 8 46), none, some (a_zle 65 49), none],
  [none, some (a_iload 8 51), none, some (a_iload 5 53), none, some (a_cgt 65 56), none, none, some (a_iload 6 58), none, some (a_iconst 1 59), some (a_iload 7 61), none, some (a_ishl 62), some (a_ior 63), some (a_istore 6 65)],
  [none, some (a_iinc 7 1 68), none, none, some (a_goto 22), none, none, some (a_iload 6 73), none, some (a_iret)]]
def t_46 : ax_T := [[some (a_iconst 0 1), some (a_istore 1 2), some (a_iload 1 3), some (a_aload 0 4), some (a_getI 7 10 9 7), none, none, some (a_cge 43 10), none, none, some (a_aload 0 11), some (a_aload 0 12), some (a_getR 7 10 4 15), none, none, some (a_iload 1 16)],
  [some (a_iald 17), some (a_aload 0 18), some (a_getR 7 10 5 21), none, none, some (a_iload 1 22), some (a_iald 23), some (a_callV 7 10 39 2 26), none, none, some (a_aload 0 27), some (a_getR 7 10 6 30), none, none, some (a_iload 1 31), some (a_iald 32)],
  [some (a_cle 37 35), none, none, some (a_iload 1 36), some (a_iret), some (a_iinc 1 1 40), none, none, some (a_goto 2), none, none, some (a_iconst (-4) 45), none, some (a_iret)]]
def t_47 : ax_T := [[some (a_iconst 0 1), some (a_istore 2 2), some (a_iconst 0 3), some (a_istore 3 4), some (a_iload 3 5), some (a_aload 0 6), some (a_getI 7 10 9 9), none, none, some (a_cge 51 12), none, none, some (a_aload 0 13), some (a_getR 7 10 4 16), none, none],
  [some (a_iload 3 17), some (a_iald 18), some (a_iload 1 19), some (a_cne 45 22), none, none, some (a_iload 2 23), some (a_aload 0 24), some (a_iload 1 25), some (a_aload 0 26), some (a_getR 7 10 5 29), none, none, some (a_iload 3 30), some (a_iald 31), some (a_callV 7 10 38 2 34)],
  [none, none, some (a_aload 0 35), some (a_getR 7 10 6 38), none, none, some (a_iload 3 39), some (a_iald 40), some (a_isub 41), some (a_callS 175 2 44), none, none, some (a_istore 2 45), some (a_iinc 3 1 48), none, none],
  [some (a_goto 4), none, none, some (a_iload 2 52), some (a_iret)]]
def t_48 : ax_T := [[some (a_iconst 0 1), some (a_istore 4 3), none, some (a_iload 2 4), some (a_istore 5 6), none, some (a_iload 5 8), none, some (a_iload 3 9), some (a_cgt 88 12), none, none, some (a_aload 0 13), some (a_iload 5 15), none, some (a_callV 7 10 36 1 18)],
  [none, none, some (a_astore 6 20), none, some (a_iconst 0 21), some (a_istore 7 23), none, some (a_iload 7 25), none, some (a_aload 0 26), some (a_getI 7 10 8 29), none, none, some (a_cge 82 32), none, none],
  [some (a_aload 6 34), none, some (a_iload 7 36), none, some (a_iald 37), some (a_aload 6 39), none, some (a_iload 1 40), some (a_iald 41), some (a_isub 42), some (a_aload 0 43), some (a_iload 1 44), some (a_iload 5 46), none, some (a_callV 7 10 40 2 49), none],
  [none, some (a_imul 50), some (a_istore 8 52), none, some (a_iload 8 54), none, some (a_zle 76 57), none, none, some (a_iload 4 59), none, some (a_aload 0 60), some (a_iload 1 61), some (a_iload 5 63), none, some (a_callV 7 10 38 2 66)],
  [none, none, some (a_iload 8 68), none, some (a_isub 69), some (a_iconst 1 70), some (a_iadd 71), some (a_callS 175 2 74), none, none, some (a_istore 4 76), none, some (a_iinc 7 1 79), none, none, some (a_goto 23)],
  [none, none, some (a_iinc 5 1 85), none, none, some (a_goto 6), none, none, some (a_iload 4 90), none, some (a_iret)]]
def t_49 : ax_T := [[some (a_iconst 1000 3), none, none, some (a_istore 3 4), some (a_iconst 0 5), some (a_istore 4 7), none, some (a_iload 4 9), none, some (a_aload 0 10), some (a_getI 7 10 8 13), none, none, some (a_cge 55 16), none, none],
  [some (a_aload 0 17), some (a_iload 4 19), none, some (a_iload 1 20), some (a_callV 7 10 39 2 23), none, none, some (a_zle 49 26), none, none, some (a_aload 0 27), some (a_iload 4 29), none, some (a_iload 1 30), some (a_callV 7 10 42 2 33), none],
  [none, some (a_iload 2 34), some (a_cle 49 37), none, none, some (a_iload 3 38), some (a_aload 0 39), some (a_iload 4 41), none, some (a_iload 1 42), some (a_callV 7 10 43 2 45), none, none, some (a_callS 176 2 48), none, none],
  [some (a_istore 3 49), some (a_iinc 4 1 52), none, none, some (a_goto 7), none, none, some (a_iload 3 56), some (a_iret)]]
def t_50 : ax_T := [[some (a_aload 0 1), some (a_oinit 4), none, none, some (a_aload 0 5), some (a_iconst 200 8), none, none, some (a_newa 101 200 10), none, some (a_putR 8 2 0 13), none, none, some (a_vret)]]
def t_51 : ax_T := [[some (a_aload 0 1), some (a_getI 8 2 1 4), none, none, some (a_iconst 200 7), none, none, some (a_clt 12 10), none, none, some (a_iconst 0 11), some (a_zret), some (a_aload 0 13), some (a_getR 8 2 0 16), none, none],
  [some (a_aload 0 17), some (a_getI 8 2 1 20), none, none, some (a_iload 1 21), some (a_cast 22), some (a_aload 0 23), some (a_dup 24), some (a_getI 8 2 1 27), none, none, some (a_iconst 1 28), some (a_iadd 29), some (a_putI 8 2 1 32), none, none],
  [some (a_iconst 1 33), some (a_zret)]]
def t_52 : ax_T := [[some (a_iconst 0 1), some (a_istore 2 2), some (a_iload 2 3), some (a_aload 1 4), some (a_callX 177 0 7), none, none, some (a_cge 26 10), none, none, some (a_aload 0 11), some (a_aload 1 12), some (a_iload 2 13), some (a_callX 178 1 16), none, none],
  [some (a_callV 8 2 51 1 19), none, none, some (a_pop 20), some (a_iinc 2 1 23), none, none, some (a_goto 2), none, none, some (a_vret)]]
def t_53 : ax_T := [[some (a_iload 1 1), some (a_zlt 21 4), none, none, some (a_iload 1 5), some (a_aload 0 6), some (a_getI 8 2 1 9), none, none, some (a_cge 21 12), none, none, some (a_aload 0 13), some (a_getR 8 2 0 16), none, none],
  [some (a_iload 1 17), some (a_cald 18), some (a_goto 22), none, none, some (a_iconst 0 22), some (a_cret)]]
def t_54 : ax_T := [[some (a_aload 0 1), some (a_oinit 4), none, none, some (a_aload 0 5), some (a_iconst 4 6), some (a_newa 100 4 8), none, some (a_putR 9 1 0 11), none, none, some (a_vret)]]
def t_55 : ax_T := [[some (a_aload 2 1), some (a_callV 3 2 13 0 4), none, none, some (a_iconst 0 5), some (a_istore 3 6), some (a_iconst 0 7), some (a_istore 4 9), none, some (a_iload 4 11), none, some (a_iconst 200 14), none, none, some (a_cge 75 17), none],
  [none, some (a_iload 3 18), some (a_aload 1 19), some (a_getI 8 2 1 22), none, none, some (a_cge 75 25), none, none, some (a_aload 1 26), some (a_iload 3 27), some (a_callV 8 2 53 1 30), none, none, some (a_istore 5 32), none],
  [some (a_aload 0 33), some (a_aload 1 34), some (a_iload 3 35), some (a_iconst 1 36), some (a_iadd 37), some (a_iload 5 39), none, some (a_callS 56 1 42), none, none, some (a_callV 9 1 57 3 45), none, none, some (a_istore 6 47), none, some (a_iload 6 49)],
  [none, some (a_iconst (-4) 51), none, some (a_ceq 64 54), none, none, some (a_aload 0 55), some (a_aload 2 56), some (a_iload 5 58), none, some (a_callV 9 1 59 2 61), none, none, some (a_zne 66 64), none, none],
  [some (a_iload 3 65), some (a_iret), some (a_iload 6 68), none, some (a_istore 3 69), some (a_iinc 4 1 72), none, none, some (a_goto 9), none, none, some (a_iconst (-4) 77), none, some (a_iret)]]
def t_56 : ax_T := [[some (a_iload 0 1), some (a_tsw 102 119 [92, 96, 96, 96, 96, 96, 90, 96, 96, 94, 88, 96, 94, 96, 96, 96, 96, 90] 96), none, none, none, none, none, none, none, none, none, none, none, none, none, none],
  [none, none, none, none, none, none, none, none, none, none, none, none, none, none, none, none],
  [none, none, none, none, none, none, none, none, none, none, none, none, none, none, none, none],
  [none, none, none, none, none, none, none, none, none, none, none, none, none, none, none, none],
  [none, none, none, none, none, none, none, none, none, none, none, none, none, none, none, none],
  [none, none, none, none, none, none, none, none, some (a_iconst 4 89), some (a_iret), some (a_iconst 3 91), some (a_iret), some (a_iconst 2 93), some (a_iret), some (a_iconst 1 95), some (a_iret)],
  [some (a_iconst 0 97), some (a_iret)]]
def t_57 : ax_T := [[some (a_iload 3 1), some (a_iconst 1 2), some (a_clt 10 5), none, none, some (a_iload 3 6), some (a_iconst 4 7), some (a_cle 13 10), none, none, some (a_iconst (-4) 12), none, some (a_iret), some (a_iload 2 14), some (a_istore 4 16), none],
  [some (a_iconst 0 17), some (a_istore 5 19), none, some (a_iload 5 21), none, some (a_iload 3 22), some (a_cge 127 25), none, none, some (a_aload 1 26), some (a_iload 4 28), none, some (a_callS 58 2 31), none, none, some (a_istore 6 33)],
  [none, some (a_iload 6 35), none, some (a_iconst (-4) 37), none, some (a_cne 43 40), none, none, some (a_iconst (-4) 42), none, some (a_iret), some (a_iinc 4 1 46), none, none, some (a_aload 1 47), some (a_iload 4 49)],
  [none, some (a_callS 58 2 52), none, none, some (a_istore 7 54), none, some (a_iload 7 56), none, some (a_iconst (-4) 58), none, some (a_cne 73 61), none, none, some (a_aload 0 62), some (a_getR 9 1 0 65), none],
  [none, some (a_iload 5 67), none, some (a_iload 6 69), none, some (a_iast 70), some (a_goto 91), none, none, some (a_aload 0 74), some (a_getR 9 1 0 77), none, none, some (a_iload 5 79), none, some (a_iconst 10 81)],
  [none, some (a_iload 6 83), none, some (a_imul 84), some (a_iload 7 86), none, some (a_iadd 87), some (a_iast 88), some (a_iinc 4 1 91), none, none, some (a_aload 1 92), some (a_iload 4 94), none, some (a_callV 8 2 53 1 97), none],
  [none, some (a_iload 5 99), none, some (a_iload 3 100), some (a_iconst 1 101), some (a_isub 102), some (a_cne 110 105), none, none, some (a_iconst 59 107), none, some (a_goto 112), none, none, some (a_iconst 44 112), none],
  [some (a_ceq 118 115), none, none, some (a_iconst (-4) 117), none, some (a_iret), some (a_iinc 4 1 121), none, none, some (a_iinc 5 1 124), none, none, some (a_goto 19), none, none, some (a_iload 4 129)],
  [none, some (a_iret)]]
def t_58 : ax_T := [[some (a_aload 0 1), some (a_iload 1 2), some (a_callV 8 2 53 1 5), none, none, some (a_istore 2 6), some (a_iload 2 7), some (a_iconst 48 9), none, some (a_clt 25 12), none, none, some (a_iload 2 13), some (a_iconst 57 15), none, some (a_cgt 25 18)],
  [none, none, some (a_iload 2 19), some (a_iconst 48 21), none, some (a_isub 22), some (a_goto 27), none, none, some (a_iconst (-4) 27), none, some (a_iret)]]
def t_59 : ax_T := [[some (a_aload 1 1), some (a_getR 3 2 0 4), none, none, some (a_astore 3 5), some (a_aload 1 6), some (a_getR 3 2 1 9), none, none, some (a_astore 4 11), none, some (a_iload 2 12), some (a_tsw 102 119 [247, 265, 265, 265, 265, 265, 200, 265, 265, 235, 100, 265, 223, 265, 265, 265, 265, 129] 265), none, none, none],
  [none, none, none, none, none, none, none, none, none, none, none, none, none, none, none, none],
  [none, none, none, none, none, none, none, none, none, none, none, none, none, none, none, none],
  [none, none, none, none, none, none, none, none, none, none, none, none, none, none, none, none],
  [none, none, none, none, none, none, none, none, none, none, none, none, none, none, none, none],
  [none, none, none, none, none, none, none, none, none, none, none, none, none, none, none, none],
  [none, none, none, none, some (a_aload 3 101), some (a_aload 0 102), some (a_getR 9 1 0 105), none, none, some (a_iconst 0 106), some (a_iald 107), some (a_aload 0 108), some (a_getR 9 1 0 111), none, none, some (a_iconst 1 112)],
  [some (a_iald 113), some (a_aload 0 114), some (a_getR 9 1 0 117), none, none, some (a_iconst 2 118), some (a_iald 119), some (a_aload 0 120), some (a_getR 9 1 0 123), none, none, some (a_iconst 3 124), some (a_iald 125), some (a_callV 7 10 33 4 128), none, none],
  [some (a_zret), some (a_aload 3 130), some (a_aload 0 131), some (a_getR 9 1 0 134), none, none, some (a_iconst 0 135), some (a_iald 136), some (a_callV 7 10 32 1 139), none, none, some (a_zeq 198 142), none, none, some (a_aload 0 143), some (a_getR 9 1 0 146)],
  [none, none, some (a_iconst 1 147), some (a_iald 148), some (a_callS 97 1 151), none, none, some (a_zeq 198 154), none, none, some (a_aload 0 155), some (a_getR 9 1 0 158), none, none, some (a_iconst 2 159), some (a_iald 160)],
  [some (a_callS 99 1 163), none, none, some (a_zeq 198 166), none, none, some (a_aload 3 167), some (a_getR 7 10 3 170), none, none, some (a_aload 0 171), some (a_getR 9 1 0 174), none, none, some (a_iconst 0 175), some (a_iald 176)],
  [some (a_aload 0 177), some (a_getR 9 1 0 180), none, none, some (a_iconst 1 181), some (a_iald 182), some (a_aload 0 183), some (a_getR 9 1 0 186), none, none, some (a_iconst 2 187), some (a_iald 188), some (a_callV 5 5 20 3 191), none, none, some (a_zeq 198 194)],
  [none, none, some (a_iconst 1 195), some (a_goto 199), none, none, some (a_iconst 0 199), some (a_zret), some (a_aload 3 201), some (a_aload 0 202), some (a_getR 9 1 0 205), none, none, some (a_iconst 0 206), some (a_iald 207), some (a_aload 0 208)],
  [some (a_getR 9 1 0 211), none, none, some (a_iconst 1 212), some (a_iald 213), some (a_aload 0 214), some (a_getR 9 1 0 217), none, none, some (a_iconst 2 218), some (a_iald 219), some (a_callV 7 10 34 3 222), none, none, some (a_zret), some (a_aload 4 225)],
  [none, some (a_aload 0 226), some (a_getR 9 1 0 229), none, none, some (a_iconst 0 230), some (a_iald 231), some (a_callV 6 7 25 1 234), none, none, some (a_zret), some (a_aload 4 237), none, some (a_aload 0 238), some (a_getR 9 1 0 241), none],
  [none, some (a_iconst 0 242), some (a_iald 243), some (a_callV 6 7 26 1 246), none, none, some (a_zret), some (a_aload 4 249), none, some (a_aload 0 250), some (a_getR 9 1 0 253), none, none, some (a_iconst 0 254), some (a_iald 255), some (a_aload 0 256)],
  [some (a_getR 9 1 0 259), none, none, some (a_iconst 1 260), some (a_iald 261), some (a_callV 6 7 27 2 264), none, none, some (a_zret), some (a_iconst 0 266), some (a_zret)]]
def t_60 : ax_T := [[some (a_aload 0 1), some (a_oinit 4), none, none, some (a_aload 0 5), some (a_iconst 6 7), none, some (a_newa 100 6 9), none, some (a_putR 10 6 0 12), none, none, some (a_aload 0 13), some (a_iconst 6 15), none, some (a_newa 100 6 17)],
  [none, some (a_putR 10 6 1 20), none, none, some (a_vret)]]
def t_61 : ax_T := [[some (a_aload 0 1), some (a_iconst 1 2), some (a_putZ 10 6 2 5), none, none, some (a_aload 0 6), some (a_iconst 0 7), some (a_putZ 10 6 3 10), none, none, some (a_aload 0 11), some (a_aload 1 12), some (a_iconst 0 13), some (a_iconst 0 14), some (a_iconst 0 15), some (a_iconst 0 16)],
  [some (a_iconst 0 17), some (a_callV 10 6 62 6 20), none, none, some (a_vret)]]
def t_62 : ax_T := [[some (a_aload 0 1), some (a_getI 10 6 3 4), none, none, some (a_zeq 35 7), none, none, some (a_iload 5 9), none, some (a_aload 0 10), some (a_getI 10 6 4 13), none, none, some (a_cgt 34 16), none, none],
  [some (a_iload 5 18), none, some (a_aload 0 19), some (a_getI 10 6 4 22), none, none, some (a_cne 35 25), none, none, some (a_iload 6 27), none, some (a_aload 0 28), some (a_getI 10 6 5 31), none, none, some (a_clt 35 34)],
  [none, none, some (a_vret), some (a_iload 2 36), some (a_aload 1 37), some (a_getI 6 7 6 40), none, none, some (a_clt 53 43), none, none, some (a_aload 0 44), some (a_aload 1 45), some (a_iload 5 47), none, some (a_iload 6 49)],
  [none, some (a_callV 10 6 63 3 52), none, none, some (a_vret), some (a_iconst 0 54), some (a_istore 7 56), none, some (a_iload 7 58), none, some (a_aload 1 59), some (a_getI 6 7 6 62), none, none, some (a_cge 151 65), none],
  [none, some (a_iload 3 66), some (a_iload 7 68), none, some (a_ishr 69), some (a_iconst 1 70), some (a_iand 71), some (a_zne 145 74), none, none, some (a_aload 0 75), some (a_getR 10 6 0 78), none, none, some (a_iload 2 79), some (a_iload 7 81)],
  [none, some (a_iast 82), some (a_iload 4 84), none, some (a_aload 1 85), some (a_getR 6 7 2 88), none, none, some (a_iload 7 90), none, some (a_iald 91), some (a_iadd 92), some (a_istore 8 94), none, some (a_iconst 0 95), some (a_iload 8 97)],
  [none, some (a_aload 1 98), some (a_getR 6 7 3 101), none, none, some (a_iload 7 103), none, some (a_iald 104), some (a_isub 105), some (a_callS 175 2 108), none, none, some (a_istore 9 110), none, some (a_aload 0 111), some (a_aload 1 112)],
  [some (a_iload 2 113), some (a_iconst 1 114), some (a_iadd 115), some (a_iload 3 116), some (a_iconst 1 117), some (a_iload 7 119), none, some (a_ishl 120), some (a_ior 121), some (a_iload 8 123), none, some (a_iload 9 125), none, some (a_zle 135 128), none, none],
  [some (a_iload 5 130), none, some (a_iconst 1 131), some (a_iadd 132), some (a_goto 137), none, none, some (a_iload 5 137), none, some (a_iload 6 139), none, some (a_iload 9 141), none, some (a_iadd 142), some (a_callV 10 6 62 6 145), none],
  [none, some (a_iinc 7 1 148), none, none, some (a_goto 56), none, none, some (a_vret)]]
def t_63 : ax_T := [[some (a_aload 0 1), some (a_iconst 1 2), some (a_putZ 10 6 3 5), none, none, some (a_aload 0 6), some (a_iload 2 7), some (a_putI 10 6 4 10), none, none, some (a_aload 0 11), some (a_iload 3 12), some (a_putI 10 6 5 15), none, none, some (a_iconst 0 16)],
  [some (a_istore 4 18), none, some (a_iload 4 20), none, some (a_aload 1 21), some (a_getI 6 7 6 24), none, none, some (a_cge 47 27), none, none, some (a_aload 0 28), some (a_getR 10 6 1 31), none, none, some (a_iload 4 33)],
  [none, some (a_aload 0 34), some (a_getR 10 6 0 37), none, none, some (a_iload 4 39), none, some (a_iald 40), some (a_iast 41), some (a_iinc 4 1 44), none, none, some (a_goto 18), none, none, some (a_vret)]]
def t_64 : ax_T := [[some (a_aload 0 1), some (a_oinit 4), none, none, some (a_aload 0 5), some (a_new 8 2 8), none, none, some (a_dup 9), some (a_callV 8 2 50 0 12), none, none, some (a_putR 11 9 0 15), none, none, some (a_aload 0 16)],
  [some (a_new 9 1 19), none, none, some (a_dup 20), some (a_callV 9 1 54 0 23), none, none, some (a_putR 11 9 1 26), none, none, some (a_aload 0 27), some (a_new 0 3 30), none, none, some (a_dup 31), some (a_callV 0 3 0 0 34)],
  [none, none, some (a_putR 11 9 2 37), none, none, some (a_aload 0 38), some (a_new 2 2 41), none, none, some (a_dup 42), some (a_callV 2 2 9 0 45), none, none, some (a_putR 11 9 3 48), none, none],
  [some (a_aload 0 49), some (a_new 4 3 52), none, none, some (a_dup 53), some (a_callV 4 3 14 0 56), none, none, some (a_putR 11 9 4 59), none, none, some (a_aload 0 60), some (a_new 1 7 63), none, none, some (a_dup 64)],
  [some (a_callV 1 7 4 0 67), none, none, some (a_putR 11 9 5 70), none, none, some (a_aload 0 71), some (a_new 10 6 74), none, none, some (a_dup 75), some (a_callV 10 6 60 0 78), none, none, some (a_putR 11 9 6 81), none],
  [none, some (a_aload 0 82), some (a_new 3 2 85), none, none, some (a_dup 86), some (a_callV 3 2 12 0 89), none, none, some (a_putR 11 9 7 92), none, none, some (a_aload 0 93), some (a_new 3 2 96), none, none],
  [some (a_dup 97), some (a_callV 3 2 12 0 100), none, none, some (a_putR 11 9 8 103), none, none, some (a_aload 0 104), some (a_getR 11 9 0 107), none, none, some (a_ldcs 109), none, some (a_callV 8 2 52 1 112), none, none],
  [some (a_aload 0 113), some (a_getR 11 9 1 116), none, none, some (a_aload 0 117), some (a_getR 11 9 0 120), none, none, some (a_aload 0 121), some (a_getR 11 9 7 124), none, none, some (a_callV 9 1 55 2 127), none, none, some (a_pop 128)],
  [some (a_aload 0 129), some (a_getR 11 9 0 132), none, none, some (a_iconst 0 133), some (a_putI 8 2 1 136), none, none, some (a_vret)]]
def t_65 : ax_T := [[some (a_iload 1 1), some (a_iconst 32 3), none, some (a_clt 12 6), none, none, some (a_iload 1 7), some (a_iconst 126 9), none, some (a_cle 14 12), none, none, some (a_iconst (-1) 13), some (a_iret), some (a_aload 0 15), some (a_getR 11 9 0 18)],
  [none, none, some (a_iload 1 19), some (a_i2c 20), some (a_callV 8 2 51 1 23), none, none, some (a_zeq 36 26), none, none, some (a_aload 0 27), some (a_getR 11 9 0 30), none, none, some (a_getI 8 2 1 33), none],
  [none, some (a_goto 38), none, none, some (a_iconst (-3) 38), none, some (a_iret)]]
def t_66 : ax_T := [[some (a_aload 0 1), some (a_getR 11 9 0 4), none, none, some (a_getI 8 2 1 7), none, none, some (a_istore 1 8), some (a_aload 0 9), some (a_getR 11 9 0 12), none, none, some (a_iconst 0 13), some (a_putI 8 2 1 16), none, none],
  [some (a_iload 1 17), some (a_iret)]]
def t_67 : ax_T := [[some (a_aload 0 1), some (a_getR 11 9 1 4), none, none, some (a_aload 0 5), some (a_getR 11 9 0 8), none, none, some (a_aload 0 9), some (a_getR 11 9 8 12), none, none, some (a_callV 9 1 55 2 15), none, none, some (a_iret)]]
def t_68 : ax_T := [[some (a_aload 0 1), some (a_getR 11 9 1 4), none, none, some (a_aload 0 5), some (a_getR 11 9 0 8), none, none, some (a_aload 0 9), some (a_getR 11 9 8 12), none, none, some (a_callV 9 1 55 2 15), none, none, some (a_iconst (-4) 17)],
  [none, some (a_cne 33 20), none, none, some (a_aload 0 21), some (a_getR 11 9 8 24), none, none, some (a_getR 3 2 0 27), none, none, some (a_getI 7 10 8 30), none, none, some (a_zne 36 33), none],
  [none, some (a_iconst (-2) 35), none, some (a_iret), some (a_aload 0 37), some (a_getR 11 9 7 40), none, none, some (a_astore 1 41), some (a_aload 0 42), some (a_aload 0 43), some (a_getR 11 9 8 46), none, none, some (a_putR 11 9 7 49), none],
  [none, some (a_aload 0 50), some (a_aload 1 51), some (a_putR 11 9 8 54), none, none, some (a_aload 0 55), some (a_getR 11 9 4 58), none, none, some (a_iconst 0 59), some (a_putI 4 3 2 62), none, none, some (a_aload 0 63), some (a_getR 11 9 2 66)],
  [none, none, some (a_iconst 0 67), some (a_putI 0 3 2 70), none, none, some (a_aload 0 71), some (a_getR 11 9 3 74), none, none, some (a_iconst 0 75), some (a_putI 2 2 1 78), none, none, some (a_aload 0 79), some (a_getR 11 9 5 82)],
  [none, none, some (a_iconst 0 83), some (a_putZ 1 7 3 86), none, none, some (a_aload 0 87), some (a_getR 11 9 6 90), none, none, some (a_iconst 0 91), some (a_putZ 10 6 2 94), none, none, some (a_aload 0 95), some (a_getR 11 9 7 98)],
  [none, none, some (a_getR 3 2 0 101), none, none, some (a_getI 7 10 8 104), none, none, some (a_iret)]]
def t_69 : ax_T := [[some (a_aload 0 1), some (a_iload 1 2), some (a_callV 11 9 95 1 5), none, none, some (a_zne 10 8), none, none, some (a_iconst (-1) 9), some (a_iret), some (a_iload 2 11), some (a_tsw 0 2 [36, 49, 62] 81), none, none, none, none],
  [none, none, none, none, none, none, none, none, none, none, none, none, none, none, none, none],
  [none, none, none, none, some (a_aload 0 37), some (a_getR 11 9 7 40), none, none, some (a_getR 3 2 0 43), none, none, some (a_getR 7 10 1 46), none, none, some (a_iload 1 47), some (a_iald 48)],
  [some (a_iret), some (a_aload 0 50), some (a_getR 11 9 7 53), none, none, some (a_getR 3 2 0 56), none, none, some (a_getR 7 10 2 59), none, none, some (a_iload 1 60), some (a_iald 61), some (a_iret), some (a_aload 0 63), some (a_getR 11 9 7 66)],
  [none, none, some (a_getR 3 2 0 69), none, none, some (a_getR 7 10 3 72), none, none, some (a_getR 5 5 0 75), none, none, some (a_iload 1 76), some (a_iald 77), some (a_iconst 9 79), none, some (a_iadd 80)],
  [some (a_iret), some (a_iconst (-1) 82), some (a_iret)]]
def t_70 : ax_T := [[some (a_aload 0 1), some (a_iload 1 2), some (a_callV 11 9 95 1 5), none, none, some (a_zeq 30 8), none, none, some (a_iload 2 9), some (a_callS 97 1 12), none, none, some (a_zeq 30 15), none, none, some (a_aload 0 16)],
  [some (a_getR 11 9 7 19), none, none, some (a_getR 3 2 0 22), none, none, some (a_iload 1 23), some (a_iload 2 24), some (a_callV 7 10 35 2 27), none, none, some (a_goto 31), none, none, some (a_iconst (-1) 31), some (a_iret)]]
def t_71 : ax_T := [[some (a_aload 0 1), some (a_iload 1 2), some (a_callV 11 9 95 1 5), none, none, some (a_zeq 24 8), none, none, some (a_iload 2 9), some (a_callS 97 1 12), none, none, some (a_zeq 24 15), none, none, some (a_iload 3 16)],
  [some (a_zlt 24 19), none, none, some (a_iload 3 20), some (a_iconst 2 21), some (a_cle 26 24), none, none, some (a_iconst (-1) 25), some (a_iret), some (a_aload 0 27), some (a_getR 11 9 7 30), none, none, some (a_getR 3 2 0 33), none],
  [none, some (a_iload 1 34), some (a_iload 2 35), some (a_callV 7 10 39 2 38), none, none, some (a_istore 4 40), none, some (a_iload 3 41), some (a_zne 47 44), none, none, some (a_iload 4 46), none, some (a_iret), some (a_iload 4 49)],
  [none, some (a_zne 55 52), none, none, some (a_iconst (-4) 54), none, some (a_iret), some (a_iconst 200 58), none, none, some (a_iload 3 59), some (a_iconst 1 60), some (a_cne 78 63), none, none, some (a_aload 0 64)],
  [some (a_getR 11 9 7 67), none, none, some (a_getR 3 2 0 70), none, none, some (a_iload 1 71), some (a_iload 2 72), some (a_callV 7 10 42 2 75), none, none, some (a_goto 90), none, none, some (a_aload 0 79), some (a_getR 11 9 7 82)],
  [none, none, some (a_getR 3 2 0 85), none, none, some (a_iload 1 86), some (a_iload 2 87), some (a_callV 7 10 43 2 90), none, none, some (a_iadd 91), some (a_iret)]]
def t_72 : ax_T := [[some (a_iload 1 1), some (a_callS 99 1 4), none, none, some (a_zeq 29 7), none, none, some (a_iload 2 8), some (a_callS 97 1 11), none, none, some (a_zeq 29 14), none, none, some (a_aload 0 15), some (a_getR 11 9 7 18)],
  [none, none, some (a_getR 3 2 0 21), none, none, some (a_iload 1 22), some (a_iload 2 23), some (a_callV 7 10 44 2 26), none, none, some (a_goto 30), none, none, some (a_iconst (-1) 30), some (a_iret)]]
def t_73 : ax_T := [[some (a_aload 0 1), some (a_iload 1 2), some (a_callV 11 9 95 1 5), none, none, some (a_zeq 24 8), none, none, some (a_iload 2 9), some (a_callS 97 1 12), none, none, some (a_zeq 24 15), none, none, some (a_aload 0 16)],
  [some (a_iload 1 17), some (a_iload 2 18), some (a_callV 11 9 96 2 21), none, none, some (a_goto 25), none, none, some (a_iconst (-1) 25), some (a_iret)]]
def t_74 : ax_T := [[some (a_aload 0 1), some (a_iload 1 2), some (a_callV 11 9 95 1 5), none, none, some (a_zeq 15 8), none, none, some (a_iload 2 9), some (a_callS 97 1 12), none, none, some (a_zne 17 15), none, none, some (a_iconst (-1) 16)],
  [some (a_iret), some (a_iconst 0 18), some (a_istore 3 19), some (a_iconst 6 21), none, some (a_istore 4 23), none, some (a_iload 4 25), none, some (a_iload 2 26), some (a_cgt 48 29), none, none, some (a_iload 3 30), some (a_aload 0 31), some (a_iload 1 32)],
  [some (a_iload 4 34), none, some (a_callV 11 9 96 2 37), none, none, some (a_callS 173 1 40), none, none, some (a_iadd 41), some (a_istore 3 42), some (a_iinc 4 1 45), none, none, some (a_goto 23), none, none],
  [some (a_iload 3 49), some (a_iret)]]
def t_75 : ax_T := [[some (a_aload 0 1), some (a_iload 1 2), some (a_callV 11 9 95 1 5), none, none, some (a_zeq 18 8), none, none, some (a_iload 2 9), some (a_zlt 18 12), none, none, some (a_iload 2 13), some (a_iconst 29 15), none, some (a_cle 20 18)],
  [none, none, some (a_iconst (-1) 19), some (a_iret), some (a_aload 0 21), some (a_getR 11 9 7 24), none, none, some (a_getR 3 2 0 27), none, none, some (a_getR 7 10 3 30), none, none, some (a_astore 3 31), some (a_aload 3 32)],
  [some (a_getR 5 5 0 35), none, none, some (a_iload 1 36), some (a_iald 37), some (a_istore 4 39), none, some (a_aload 3 40), some (a_getR 5 5 0 43), none, none, some (a_iload 1 44), some (a_iload 2 45), some (a_iconst 9 47), none, some (a_isub 48)],
  [some (a_iast 49), some (a_aload 0 50), some (a_getR 11 9 2 53), none, none, some (a_iload 1 54), some (a_iload 4 56), none, some (a_callV 0 3 1 2 59), none, none, some (a_iload 4 61), none, some (a_iconst 9 63), none, some (a_iadd 64)],
  [some (a_iret)]]
def t_76 : ax_T := [[some (a_aload 0 1), some (a_iload 1 2), some (a_callV 11 9 95 1 5), none, none, some (a_zeq 22 8), none, none, some (a_iload 2 9), some (a_callS 97 1 12), none, none, some (a_zeq 22 15), none, none, some (a_iload 3 16)],
  [some (a_callS 99 1 19), none, none, some (a_zne 24 22), none, none, some (a_iconst (-1) 23), some (a_iret), some (a_aload 0 25), some (a_getR 11 9 7 28), none, none, some (a_getR 3 2 0 31), none, none, some (a_getR 7 10 3 34)],
  [none, none, some (a_iload 1 35), some (a_iload 2 36), some (a_iload 3 37), some (a_callV 5 5 20 3 40), none, none, some (a_zne 46 43), none, none, some (a_iconst (-3) 45), none, some (a_iret), some (a_aload 0 47), some (a_getR 11 9 2 50)],
  [none, none, some (a_iconst (-1) 51), some (a_iconst 0 52), some (a_callV 0 3 1 2 55), none, none, some (a_aload 0 56), some (a_getR 11 9 7 59), none, none, some (a_getR 3 2 0 62), none, none, some (a_getR 7 10 3 65), none],
  [none, some (a_getI 5 5 4 68), none, none, some (a_iret)]]
def t_77 : ax_T := [[some (a_aload 0 1), some (a_getR 11 9 2 4), none, none, some (a_aload 0 5), some (a_getR 11 9 7 8), none, none, some (a_getR 3 2 0 11), none, none, some (a_getR 7 10 3 14), none, none, some (a_callV 0 3 3 1 17), none],
  [none, some (a_zeq 30 20), none, none, some (a_aload 0 21), some (a_getR 11 9 2 24), none, none, some (a_getI 0 3 2 27), none, none, some (a_goto 32), none, none, some (a_iconst (-2) 32), none],
  [some (a_iret)]]
def t_78 : ax_T := [[some (a_iload 1 1), some (a_zlt 9 4), none, none, some (a_iload 1 5), some (a_iconst 2 6), some (a_cle 11 9), none, none, some (a_iconst (-1) 10), some (a_iret), some (a_iconst 6 13), none, some (a_istore 2 14), some (a_iload 2 15), some (a_iconst 18 17)],
  [none, some (a_cgt 84 20), none, none, some (a_iconst 0 21), some (a_istore 3 22), some (a_iload 3 23), some (a_aload 0 24), some (a_getR 11 9 7 27), none, none, some (a_getR 3 2 0 30), none, none, some (a_getI 7 10 8 33), none],
  [none, some (a_cge 78 36), none, none, some (a_aload 0 37), some (a_iload 3 38), some (a_iload 2 39), some (a_callV 11 9 96 2 42), none, none, some (a_istore 4 44), none, some (a_iload 4 46), none, some (a_zeq 72 49), none],
  [none, some (a_iload 1 50), some (a_zne 57 53), none, none, some (a_iload 2 54), some (a_goto 71), none, none, some (a_iload 1 58), some (a_iconst 1 59), some (a_cne 66 62), none, none, some (a_iload 3 63), some (a_goto 71)],
  [none, none, some (a_iload 4 68), none, some (a_callS 172 1 71), none, none, some (a_iret), some (a_iinc 3 1 75), none, none, some (a_goto 22), none, none, some (a_iinc 2 1 81), none],
  [none, some (a_goto 14), none, none, some (a_iconst (-4) 86), none, some (a_iret)]]
def t_79 : ax_T := [[some (a_aload 0 1), some (a_getR 11 9 7 4), none, none, some (a_getR 3 2 0 7), none, none, some (a_callV 7 10 46 0 10), none, none, some (a_iret)]]
def t_80 : ax_T := [[some (a_aload 0 1), some (a_iload 1 2), some (a_callV 11 9 95 1 5), none, none, some (a_zeq 16 8), none, none, some (a_iload 2 9), some (a_iload 3 10), some (a_callS 98 2 13), none, none, some (a_zne 18 16), none, none],
  [some (a_iconst (-1) 17), some (a_iret), some (a_aload 0 19), some (a_getR 11 9 7 22), none, none, some (a_getR 3 2 0 25), none, none, some (a_iload 1 26), some (a_callV 7 10 47 1 29), none, none, some (a_aload 0 30), some (a_getR 11 9 7 33), none],
  [none, some (a_getR 3 2 0 36), none, none, some (a_iload 1 37), some (a_iload 2 38), some (a_iload 3 39), some (a_callV 7 10 48 3 42), none, none, some (a_callS 175 2 45), none, none, some (a_istore 4 47), none, some (a_iload 4 49)],
  [none, some (a_iconst 20 51), none, some (a_cgt 59 54), none, none, some (a_iload 4 56), none, some (a_goto 61), none, none, some (a_iconst (-4) 61), none, some (a_iret)]]
def t_81 : ax_T := [[some (a_iload 1 1), some (a_callS 97 1 4), none, none, some (a_zeq 18 7), none, none, some (a_iload 2 8), some (a_zlt 18 11), none, none, some (a_iload 2 12), some (a_iconst 140 15), none, none, some (a_cle 20 18)],
  [none, none, some (a_iconst (-1) 19), some (a_iret), some (a_aload 0 21), some (a_getR 11 9 4 24), none, none, some (a_iload 1 25), some (a_iload 2 26), some (a_iconst 40 28), none, some (a_isub 29), some (a_callV 4 3 15 2 32), none, none],
  [some (a_zeq 45 35), none, none, some (a_aload 0 36), some (a_getR 11 9 4 39), none, none, some (a_getI 4 3 2 42), none, none, some (a_goto 47), none, none, some (a_iconst (-3) 47), none, some (a_iret)]]
def t_82 : ax_T := [[some (a_aload 0 1), some (a_getR 11 9 4 4), none, none, some (a_getI 4 3 2 7), none, none, some (a_istore 1 8), some (a_aload 0 9), some (a_getR 11 9 4 12), none, none, some (a_iconst 0 13), some (a_putI 4 3 2 16), none, none],
  [some (a_iload 1 17), some (a_iret)]]
def t_83 : ax_T := [[some (a_aload 0 1), some (a_getR 11 9 4 4), none, none, some (a_aload 0 5), some (a_getR 11 9 7 8), none, none, some (a_getR 3 2 0 11), none, none, some (a_callV 4 3 16 1 14), none, none, some (a_iret)]]
def t_84 : ax_T := [[some (a_iload 1 1), some (a_zlt 9 4), none, none, some (a_iload 1 5), some (a_iconst 1 6), some (a_cle 11 9), none, none, some (a_iconst (-1) 10), some (a_iret), some (a_aload 0 12), some (a_getR 11 9 4 15), none, none, some (a_aload 0 16)],
  [some (a_getR 11 9 7 19), none, none, some (a_getR 3 2 0 22), none, none, some (a_callV 4 3 16 1 25), none, none, some (a_istore 2 26), some (a_iload 2 27), some (a_zne 33 30), none, none, some (a_iconst (-4) 32), none],
  [some (a_iret), some (a_iconst 6 35), none, some (a_istore 3 36), some (a_iconst 7 38), none, some (a_istore 4 40), none, some (a_iconst 6 42), none, some (a_istore 5 44), none, some (a_iload 5 46), none, some (a_iconst 18 48), none],
  [some (a_cgt 86 51), none, none, some (a_aload 0 52), some (a_getR 11 9 7 55), none, none, some (a_getR 3 2 0 58), none, none, some (a_iload 2 59), some (a_iload 5 61), none, some (a_callS 18 3 64), none, none],
  [some (a_istore 6 66), none, some (a_iload 6 68), none, some (a_iload 4 70), none, some (a_cge 80 73), none, none, some (a_iload 6 75), none, some (a_istore 4 77), none, some (a_iload 5 79), none, some (a_istore 3 80)],
  [some (a_iinc 5 1 83), none, none, some (a_goto 44), none, none, some (a_iload 1 87), some (a_zne 94 90), none, none, some (a_iload 3 91), some (a_goto 96), none, none, some (a_iload 4 96), none],
  [some (a_iret)]]
def t_85 : ax_T := [[some (a_iload 1 1), some (a_iconst (-2) 3), none, some (a_clt 20 6), none, none, some (a_iload 1 7), some (a_aload 0 8), some (a_getR 11 9 7 11), none, none, some (a_getR 3 2 1 14), none, none, some (a_getI 6 7 4 17), none],
  [none, some (a_clt 22 20), none, none, some (a_iconst (-1) 21), some (a_iret), some (a_aload 0 23), some (a_getR 11 9 5 26), none, none, some (a_getI 1 7 3 29), none, none, some (a_zne 46 32), none, none],
  [some (a_aload 0 33), some (a_getR 11 9 5 36), none, none, some (a_aload 0 37), some (a_getR 11 9 7 40), none, none, some (a_getR 3 2 1 43), none, none, some (a_callV 1 7 5 1 46), none, none, some (a_aload 0 47), some (a_getR 11 9 5 50)],
  [none, none, some (a_getI 1 7 4 53), none, none, some (a_zne 59 56), none, none, some (a_iconst (-4) 58), none, some (a_iret), some (a_iload 1 60), some (a_iconst (-1) 61), some (a_cne 83 64), none, none],
  [some (a_aload 0 65), some (a_getR 11 9 5 68), none, none, some (a_getI 1 7 5 71), none, none, some (a_aload 0 72), some (a_getR 11 9 7 75), none, none, some (a_getR 3 2 1 78), none, none, some (a_getI 6 7 5 81), none],
  [none, some (a_isub 82), some (a_iret), some (a_iload 1 84), some (a_iconst (-2) 86), none, some (a_cne 110 89), none, none, some (a_aload 0 90), some (a_getR 11 9 5 93), none, none, some (a_getI 1 7 6 96), none, none],
  [some (a_aload 0 97), some (a_getR 11 9 7 100), none, none, some (a_getR 3 2 1 103), none, none, some (a_callV 6 7 28 0 106), none, none, some (a_isub 107), some (a_goto 119), none, none, some (a_aload 0 111), some (a_getR 11 9 5 114)],
  [none, none, some (a_getR 1 7 2 117), none, none, some (a_iload 1 118), some (a_iald 119), some (a_iret)]]
def t_86 : ax_T := [[some (a_aload 0 1), some (a_getR 11 9 7 4), none, none, some (a_getR 3 2 1 7), none, none, some (a_getI 6 7 6 10), none, none, some (a_istore 2 11), some (a_iload 1 12), some (a_iconst (-2) 14), none, some (a_clt 26 17), none],
  [none, some (a_iload 1 18), some (a_iconst 1 19), some (a_iload 2 20), some (a_callS 175 2 23), none, none, some (a_clt 28 26), none, none, some (a_iconst (-1) 27), some (a_iret), some (a_iload 2 29), some (a_zne 35 32), none, none],
  [some (a_iconst (-4) 34), none, some (a_iret), some (a_aload 0 36), some (a_getR 11 9 6 39), none, none, some (a_getI 10 6 2 42), none, none, some (a_zne 59 45), none, none, some (a_aload 0 46), some (a_getR 11 9 6 49), none],
  [none, some (a_aload 0 50), some (a_getR 11 9 7 53), none, none, some (a_getR 3 2 1 56), none, none, some (a_callV 10 6 61 1 59), none, none, some (a_iload 1 60), some (a_iconst (-1) 61), some (a_cne 72 64), none, none],
  [some (a_aload 0 65), some (a_getR 11 9 6 68), none, none, some (a_getI 10 6 4 71), none, none, some (a_iret), some (a_iload 1 73), some (a_iconst (-2) 75), none, some (a_cne 88 78), none, none, some (a_aload 0 79), some (a_getR 11 9 6 82)],
  [none, none, some (a_getI 10 6 5 85), none, none, some (a_goto 97), none, none, some (a_aload 0 89), some (a_getR 11 9 6 92), none, none, some (a_getR 10 6 1 95), none, none, some (a_iload 1 96)],
  [some (a_iald 97), some (a_iret)]]
def t_87 : ax_T := [[some (a_iload 1 1), some (a_callS 97 1 4), none, none, some (a_zeq 16 7), none, none, some (a_iload 2 8), some (a_zlt 16 11), none, none, some (a_iload 2 12), some (a_iconst 1 13), some (a_cle 18 16), none, none],
  [some (a_iconst (-1) 17), some (a_iret), some (a_aload 0 19), some (a_getR 11 9 7 22), none, none, some (a_getR 3 2 0 25), none, none, some (a_iload 1 26), some (a_iconst (-1000) 29), none, none, some (a_callV 7 10 49 2 32), none, none],
  [some (a_istore 3 33), some (a_iload 3 34), some (a_iconst 1000 37), none, none, some (a_cne 43 40), none, none, some (a_iconst (-4) 42), none, some (a_iret), some (a_iload 2 44), some (a_iconst 1 45), some (a_cne 54 48), none, none],
  [some (a_iload 3 49), some (a_iconst 200 52), none, none, some (a_iadd 53), some (a_iret), some (a_iconst 0 55), some (a_istore 4 57), none, some (a_iload 3 58), some (a_istore 5 60), none, some (a_iconst 0 61), some (a_istore 6 63), none, some (a_iload 6 65)],
  [none, some (a_iconst 6 67), none, some (a_cge 102 70), none, none, some (a_iload 5 72), none, some (a_iconst 1000 75), none, none, some (a_ceq 102 78), none, none, some (a_iinc 4 1 81), none],
  [none, some (a_aload 0 82), some (a_getR 11 9 7 85), none, none, some (a_getR 3 2 0 88), none, none, some (a_iload 1 89), some (a_iload 5 91), none, some (a_callV 7 10 49 2 94), none, none, some (a_istore 5 96), none],
  [some (a_iinc 6 1 99), none, none, some (a_goto 63), none, none, some (a_iload 4 104), none, some (a_iret)]]
def t_88 : ax_T := [[some (a_iload 1 1), some (a_iconst 1 2), some (a_clt 22 5), none, none, some (a_iload 1 6), some (a_iconst 99 8), none, some (a_cgt 22 11), none, none, some (a_iload 2 12), some (a_iconst 1 13), some (a_clt 22 16), none, none],
  [some (a_iload 2 17), some (a_iconst 9 19), none, some (a_cle 24 22), none, none, some (a_iconst (-1) 23), some (a_iret), some (a_iload 1 25), some (a_iconst 1 26), some (a_isub 27), some (a_iload 2 28), some (a_iconst 1 29), some (a_iadd 30), some (a_irem 31), some (a_iret)]]
def t_89 : ax_T := [[some (a_iload 1 1), some (a_callS 97 1 4), none, none, some (a_zne 9 7), none, none, some (a_iconst (-1) 8), some (a_iret), some (a_iconst 0 10), some (a_istore 2 11), some (a_iconst 0 12), some (a_istore 3 13), some (a_iload 3 14), some (a_iconst 60 16), none],
  [some (a_cgt 43 19), none, none, some (a_aload 0 20), some (a_getR 11 9 7 23), none, none, some (a_getR 3 2 0 26), none, none, some (a_iload 3 27), some (a_iload 1 28), some (a_callV 7 10 44 2 31), none, none, some (a_zne 37 34)],
  [none, none, some (a_iinc 2 1 37), none, none, some (a_iinc 3 1 40), none, none, some (a_goto 13), none, none, some (a_iload 2 44), some (a_iret)]]
def t_90 : ax_T := [[some (a_aload 0 1), some (a_iload 1 2), some (a_callV 11 9 95 1 5), none, none, some (a_zeq 39 8), none, none, some (a_iload 2 9), some (a_iload 3 10), some (a_callS 98 2 13), none, none, some (a_zeq 39 16), none, none],
  [some (a_iload 4 18), none, some (a_zlt 39 21), none, none, some (a_iload 4 23), none, some (a_iconst 10 25), none, some (a_cgt 39 28), none, none, some (a_iload 5 30), none, some (a_zlt 39 33), none],
  [none, some (a_iload 5 35), none, some (a_iconst 1 36), some (a_cle 43 39), none, none, some (a_lconst (-1) 42), none, none, some (a_lret), some (a_iload 4 45), none, some (a_iconst 10 47), none, some (a_callS 101 2 50)],
  [none, none, some (a_istore 6 52), none, some (a_iload 5 54), none, some (a_zne 62 57), none, none, some (a_iload 4 59), none, some (a_goto 64), none, none, some (a_iconst 10 64), none],
  [some (a_iload 6 66), none, some (a_idiv 67), some (a_i2l 68), some (a_lstore 7 70), none, some (a_lconst 1 71), some (a_lstore 9 73), none, some (a_iload 2 74), some (a_istore 11 76), none, some (a_iload 11 78), none, some (a_iload 3 79), some (a_cgt 105 82)],
  [none, none, some (a_aload 0 83), some (a_iload 1 84), some (a_iload 11 86), none, some (a_callV 11 9 96 2 89), none, none, some (a_zeq 99 92), none, none, some (a_lload 9 94), none, some (a_lload 7 96), none],
  [some (a_lmul 97), some (a_lstore 9 99), none, some (a_iinc 11 1 102), none, none, some (a_goto 76), none, none, some (a_lload 9 107), none, some (a_lret)]]
def t_91 : ax_T := [[some (a_iload 1 1), some (a_zlt 20 4), none, none, some (a_iload 1 5), some (a_iconst 9999 8), none, none, some (a_cgt 20 11), none, none, some (a_iload 2 12), some (a_zlt 20 15), none, none, some (a_iload 2 16)],
  [some (a_iconst 1 17), some (a_cle 22 20), none, none, some (a_iconst (-1) 21), some (a_iret), some (a_iconst 0 23), some (a_istore 3 24), some (a_iconst (-4) 26), none, some (a_istore 4 28), none, some (a_iconst 6 30), none, some (a_istore 5 32), none],
  [some (a_iload 5 34), none, some (a_iconst 18 36), none, some (a_cgt 121 39), none, none, some (a_aload 0 40), some (a_getR 11 9 7 43), none, none, some (a_getR 3 2 0 46), none, none, some (a_iload 1 47), some (a_iload 5 49)],
  [none, some (a_callV 7 10 37 2 52), none, none, some (a_astore 6 54), none, some (a_iconst 0 55), some (a_istore 7 57), none, some (a_iload 7 59), none, some (a_aload 0 60), some (a_getR 11 9 7 63), none, none, some (a_getR 3 2 0 66)],
  [none, none, some (a_getI 7 10 8 69), none, none, some (a_cge 100 72), none, none, some (a_iload 3 73), some (a_aload 0 74), some (a_getR 11 9 7 77), none, none, some (a_getR 3 2 0 80), none, none],
  [some (a_iload 7 82), none, some (a_iload 5 84), none, some (a_aload 6 86), none, some (a_callV 7 10 45 3 89), none, none, some (a_callS 173 1 92), none, none, some (a_iadd 93), some (a_istore 3 94), some (a_iinc 7 1 97), none],
  [none, some (a_goto 57), none, none, some (a_iload 4 102), none, some (a_iconst (-4) 104), none, some (a_cne 115 107), none, none, some (a_iload 3 108), some (a_zle 115 111), none, none, some (a_iload 5 113)],
  [none, some (a_istore 4 115), none, some (a_iinc 5 1 118), none, none, some (a_goto 32), none, none, some (a_iload 2 122), some (a_zne 129 125), none, none, some (a_iload 3 126), some (a_goto 131), none],
  [none, some (a_iload 4 131), none, some (a_iret)]]
def t_92 : ax_T := [[some (a_aload 0 1), some (a_getR 11 9 3 4), none, none, some (a_aload 0 5), some (a_getR 11 9 7 8), none, none, some (a_getR 3 2 0 11), none, none, some (a_getR 7 10 3 14), none, none, some (a_callV 2 2 10 1 17), none],
  [none, some (a_zeq 30 20), none, none, some (a_aload 0 21), some (a_getR 11 9 3 24), none, none, some (a_getI 2 2 1 27), none, none, some (a_goto 32), none, none, some (a_iconst (-3) 32), none],
  [some (a_iret)]]
def t_93 : ax_T := [[some (a_aload 0 1), some (a_getR 11 9 3 4), none, none, some (a_aload 0 5), some (a_getR 11 9 7 8), none, none, some (a_getR 3 2 0 11), none, none, some (a_getR 7 10 3 14), none, none, some (a_callV 2 2 11 1 17), none],
  [none, some (a_zne 23 20), none, none, some (a_iconst (-2) 22), none, some (a_iret), some (a_aload 0 24), some (a_getR 11 9 2 27), none, none, some (a_iconst 0 28), some (a_putI 0 3 2 31), none, none, some (a_aload 0 32)],
  [some (a_getR 11 9 3 35), none, none, some (a_getI 2 2 1 38), none, none, some (a_iret)]]
def t_94 : ax_T := [[some (a_iload 1 1), some (a_tsw 0 9 [56, 67, 81, 92, 103, 114, 125, 133, 141, 149] 157), none, none, none, none, none, none, none, none, none, none, none, none, none, none],
  [none, none, none, none, none, none, none, none, none, none, none, none, none, none, none, none],
  [none, none, none, none, none, none, none, none, none, none, none, none, none, none, none, none],
  [none, none, none, none, none, none, none, none, some (a_aload 0 57), some (a_getR 11 9 7 60), none, none, some (a_getR 3 2 0 63), none, none, some (a_getI 7 10 8 66)],
  [none, none, some (a_iret), some (a_aload 0 68), some (a_getR 11 9 7 71), none, none, some (a_getR 3 2 0 74), none, none, some (a_getR 7 10 3 77), none, none, some (a_getI 5 5 4 80), none, none],
  [some (a_iret), some (a_aload 0 82), some (a_getR 11 9 7 85), none, none, some (a_getR 3 2 0 88), none, none, some (a_getI 7 10 9 91), none, none, some (a_iret), some (a_aload 0 93), some (a_getR 11 9 7 96), none, none],
  [some (a_getR 3 2 1 99), none, none, some (a_getI 6 7 4 102), none, none, some (a_iret), some (a_aload 0 104), some (a_getR 11 9 7 107), none, none, some (a_getR 3 2 1 110), none, none, some (a_getI 6 7 5 113), none],
  [none, some (a_iret), some (a_aload 0 115), some (a_getR 11 9 7 118), none, none, some (a_getR 3 2 1 121), none, none, some (a_getI 6 7 6 124), none, none, some (a_iret), some (a_aload 0 126), some (a_getR 11 9 4 129), none],
  [none, some (a_getI 4 3 2 132), none, none, some (a_iret), some (a_aload 0 134), some (a_getR 11 9 2 137), none, none, some (a_getI 0 3 2 140), none, none, some (a_iret), some (a_aload 0 142), some (a_getR 11 9 3 145), none],
  [none, some (a_getI 2 2 1 148), none, none, some (a_iret), some (a_aload 0 150), some (a_getR 11 9 0 153), none, none, some (a_getI 8 2 1 156), none, none, some (a_iret), some (a_iconst (-1) 158), some (a_iret)]]
def t_95 : ax_T := [[some (a_iload 1 1), some (a_zlt 22 4), none, none, some (a_iload 1 5), some (a_aload 0 6), some (a_getR 11 9 7 9), none, none, some (a_getR 3 2 0 12), none, none, some (a_getI 7 10 8 15), none, none, some (a_cge 22 18)],
  [none, none, some (a_iconst 1 19), some (a_goto 23), none, none, some (a_iconst 0 23), some (a_zret)]]
def t_96 : ax_T := [[some (a_aload 0 1), some (a_getR 11 9 7 4), none, none, some (a_getR 3 2 0 7), none, none, some (a_iload 1 8), some (a_iload 2 9), some (a_aload 0 10), some (a_getR 11 9 7 13), none, none, some (a_getR 3 2 0 16), none, none],
  [some (a_iload 2 17), some (a_callV 7 10 36 1 20), none, none, some (a_callV 7 10 45 3 23), none, none, some (a_iret)]]
def t_97 : ax_T := [[some (a_iload 0 1), some (a_iconst 6 3), none, some (a_clt 16 6), none, none, some (a_iload 0 7), some (a_iconst 18 9), none, some (a_cgt 16 12), none, none, some (a_iconst 1 13), some (a_goto 17), none, none],
  [some (a_iconst 0 17), some (a_zret)]]
def t_98 : ax_T := [[some (a_iload 0 1), some (a_callS 97 1 4), none, none, some (a_zeq 23 7), none, none, some (a_iload 1 8), some (a_callS 97 1 11), none, none, some (a_zeq 23 14), none, none, some (a_iload 0 15), some (a_iload 1 16)],
  [some (a_cgt 23 19), none, none, some (a_iconst 1 20), some (a_goto 24), none, none, some (a_iconst 0 24), some (a_zret)]]
def t_99 : ax_T := [[some (a_iload 0 1), some (a_zlt 14 4), none, none, some (a_iload 0 5), some (a_iconst 60 7), none, some (a_cgt 14 10), none, none, some (a_iconst 1 11), some (a_goto 15), none, none, some (a_iconst 0 15), some (a_zret)]]
def t_100 : ax_T := [[some (a_iload 0 1), some (a_iload 1 2), some (a_clt 14 5), none, none, some (a_iload 0 6), some (a_iload 2 7), some (a_cgt 14 10), none, none, some (a_iconst 1 11), some (a_goto 15), none, none, some (a_iconst 0 15), some (a_zret)]]
def t_101 : ax_T := [[some (a_iload 1 1), some (a_istore 2 2), some (a_iload 2 3), some (a_iconst 1 4), some (a_cle 27 7), none, none, some (a_iload 0 8), some (a_iload 2 9), some (a_irem 10), some (a_zne 21 13), none, none, some (a_iload 1 14), some (a_iload 2 15), some (a_irem 16)],
  [some (a_zne 21 19), none, none, some (a_iload 2 20), some (a_iret), some (a_iinc 2 (-1) 24), none, none, some (a_goto 2), none, none, some (a_iconst 1 28), some (a_iret)]]
def t_102 : ax_T := [[some (a_aload 0 1), some (a_oinit 4), none, none, some (a_aload 0 5), some (a_iconst 4 6), some (a_putI 12 38 0 9), none, none, some (a_aload 0 10), some (a_iconst 18 12), none, some (a_newa 100 18 14), none, some (a_putR 12 38 1 17), none],
  [none, some (a_aload 0 18), some (a_iconst 2 19), some (a_putI 12 38 2 22), none, none, some (a_aload 0 23), some (a_iconst 18 25), none, some (a_newa 100 18 27), none, some (a_putR 12 38 3 30), none, none, some (a_aload 0 31), some (a_iconst 4 32)],
  [some (a_putI 12 38 4 35), none, none, some (a_aload 0 36), some (a_iconst 7 38), none, some (a_newa 100 7 40), none, some (a_putR 12 38 5 43), none, none, some (a_aload 0 44), some (a_iconst 2 45), some (a_putI 12 38 6 48), none, none],
  [some (a_aload 0 49), some (a_iconst 3 50), some (a_newa 100 3 52), none, some (a_putR 12 38 7 55), none, none, some (a_aload 0 56), some (a_iconst 3 57), some (a_putI 12 38 8 60), none, none, some (a_aload 0 61), some (a_iconst 12 63), none, some (a_newa 100 12 65)],
  [none, some (a_putR 12 38 9 68), none, none, some (a_aload 0 69), some (a_iconst 34 71), none, some (a_newa 100 34 73), none, some (a_putR 12 38 10 76), none, none, some (a_aload 0 77), some (a_iconst 272 80), none, none],
  [some (a_newa 100 272 82), none, some (a_putR 12 38 12 85), none, none, some (a_aload 0 86), some (a_iconst 68 88), none, some (a_newa 100 68 90), none, some (a_putR 12 38 14 93), none, none, some (a_aload 0 94), some (a_iconst 12 96), none],
  [some (a_newa 100 12 98), none, some (a_putR 12 38 16 101), none, none, some (a_aload 0 102), some (a_iconst 200 105), none, none, some (a_newa 100 200 107), none, some (a_putR 12 38 17 110), none, none, some (a_aload 0 111), some (a_iconst 4 112)],
  [some (a_newa 100 4 114), none, some (a_putR 12 38 20 117), none, none, some (a_aload 0 118), some (a_iconst 18 120), none, some (a_newa 100 18 122), none, some (a_putR 12 38 22 125), none, none, some (a_aload 0 126), some (a_iconst 18 128), none],
  [some (a_newa 100 18 130), none, some (a_putR 12 38 24 133), none, none, some (a_aload 0 134), some (a_iconst 7 136), none, some (a_newa 100 7 138), none, some (a_putR 12 38 26 141), none, none, some (a_aload 0 142), some (a_iconst 3 143), some (a_newa 100 3 145)],
  [none, some (a_putR 12 38 28 148), none, none, some (a_aload 0 149), some (a_iconst 12 151), none, some (a_newa 100 12 153), none, some (a_putR 12 38 30 156), none, none, some (a_aload 0 157), some (a_iconst 34 159), none, some (a_newa 100 34 161)],
  [none, some (a_putR 12 38 31 164), none, none, some (a_aload 0 165), some (a_iconst 7 167), none, some (a_newa 100 7 169), none, some (a_putR 12 38 32 172), none, none, some (a_aload 0 173), some (a_iconst 6 175), none, some (a_newa 100 6 177)],
  [none, some (a_putR 12 38 35 180), none, none, some (a_aload 0 181), some (a_getR 12 38 1 184), none, none, some (a_iconst 0 185), some (a_iconst 10 187), none, some (a_iconst 4 188), some (a_iconst 0 189), some (a_callS 103 5 192), none, none],
  [some (a_aload 0 193), some (a_getR 12 38 1 196), none, none, some (a_iconst 3 197), some (a_iconst 16 199), none, some (a_iconst 2 200), some (a_iconst 1 201), some (a_callS 103 5 204), none, none, some (a_aload 0 205), some (a_getR 12 38 1 208), none, none],
  [some (a_iconst 6 210), none, some (a_iconst 30 212), none, some (a_iconst 6 214), none, some (a_iconst 2 215), some (a_callS 103 5 218), none, none, some (a_aload 0 219), some (a_getR 12 38 1 222), none, none, some (a_iconst 9 224), none],
  [some (a_iconst 33 226), none, some (a_iconst 3 227), some (a_iconst 3 228), some (a_callS 103 5 231), none, none, some (a_aload 0 232), some (a_getR 12 38 10 235), none, none, some (a_iconst 2 236), some (a_iconst 3 237), some (a_iast 238), some (a_aload 0 239), some (a_getR 12 38 10 242)],
  [none, none, some (a_iconst 3 243), some (a_iconst 1 244), some (a_iast 245), some (a_aload 0 246), some (a_getR 12 38 10 249), none, none, some (a_iconst 6 251), none, some (a_iconst 1 252), some (a_iast 253), some (a_aload 0 254), some (a_getR 12 38 10 257), none],
  [none, some (a_iconst 7 259), none, some (a_iconst 1 260), some (a_iconst 14 262), none, some (a_iconst 12 264), none, some (a_callS 103 5 267), none, none, some (a_aload 0 268), some (a_getR 12 38 3 271), none, none, some (a_iconst 0 272)],
  [some (a_iconst 0 273), some (a_iconst 8 275), none, some (a_iconst 6 277), none, some (a_callS 103 5 280), none, none, some (a_aload 0 281), some (a_getR 12 38 3 284), none, none, some (a_iconst 3 285), some (a_iconst 2 286), some (a_iconst 16 288), none],
  [some (a_iconst 9 290), none, some (a_callS 103 5 293), none, none, some (a_aload 0 294), some (a_getR 12 38 5 297), none, none, some (a_iconst 0 298), some (a_iconst 5 299), some (a_iconst 3 300), some (a_iconst 8 302), none, some (a_callS 103 5 305), none],
  [none, some (a_aload 0 306), some (a_getR 12 38 5 309), none, none, some (a_iconst 3 310), some (a_iconst 2 311), some (a_iast 312), some (a_aload 0 313), some (a_getR 12 38 7 316), none, none, some (a_iconst 0 317), some (a_iconst 6 319), none, some (a_iast 320)],
  [some (a_aload 0 321), some (a_getR 12 38 7 324), none, none, some (a_iconst 1 325), some (a_iconst 9 327), none, some (a_iast 328), some (a_aload 0 329), some (a_getR 12 38 9 332), none, none, some (a_iconst 0 333), some (a_iconst 2 334), some (a_iconst 4 335), some (a_iconst 3 336)],
  [some (a_callS 103 5 339), none, none, some (a_aload 0 340), some (a_getR 12 38 9 343), none, none, some (a_iconst 3 344), some (a_iconst 3 345), some (a_iconst 1 346), some (a_iconst 6 348), none, some (a_callS 103 5 351), none, none, some (a_vret)]]
def t_103 : ax_T := [[some (a_aload 0 1), some (a_iload 1 2), some (a_iload 2 3), some (a_iast 4), some (a_aload 0 5), some (a_iload 1 6), some (a_iconst 1 7), some (a_iadd 8), some (a_iload 3 9), some (a_iast 10), some (a_aload 0 11), some (a_iload 1 12), some (a_iconst 2 13), some (a_iadd 14), some (a_iload 4 16), none],
  [some (a_iast 17), some (a_vret)]]
def t_104 : ax_T := [[some (a_iload 0 1), some (a_iload 1 2), some (a_clt 14 5), none, none, some (a_iload 0 6), some (a_iload 2 7), some (a_cgt 14 10), none, none, some (a_iconst 1 11), some (a_goto 15), none, none, some (a_iconst 0 15), some (a_zret)]]
def t_105 : ax_T := [[some (a_iload 0 1), some (a_iload 1 2), some (a_ishr 3), some (a_iconst 1 4), some (a_iand 5), some (a_iconst 1 6), some (a_cne 13 9), none, none, some (a_iconst 1 10), some (a_goto 14), none, none, some (a_iconst 0 14), some (a_zret)]]
def t_106 : ax_T := [[some (a_iconst 0 1), some (a_istore 1 2), some (a_iload 0 3), some (a_istore 2 4), some (a_iload 2 5), some (a_zle 20 8), none, none, some (a_iinc 1 1 11), none, none, some (a_iload 2 12), some (a_iload 2 13), some (a_iconst 1 14), some (a_isub 15), some (a_iand 16)],
  [some (a_istore 2 17), some (a_goto 4), none, none, some (a_iload 1 21), some (a_iret)]]
def t_107 : ax_T := [[some (a_iload 1 1), some (a_iconst 0 2), some (a_aload 0 3), some (a_getI 12 38 0 6), none, none, some (a_iconst 1 7), some (a_isub 8), some (a_callS 104 3 11), none, none, some (a_zret)]]
def t_108 : ax_T := [[some (a_iload 0 1), some (a_iconst 6 3), none, some (a_iconst 18 5), none, some (a_callS 104 3 8), none, none, some (a_zret)]]
def t_109 : ax_T := [[some (a_iload 1 1), some (a_iconst 32 3), none, some (a_iconst 126 5), none, some (a_callS 104 3 8), none, none, some (a_zne 13 11), none, none, some (a_iconst (-1) 12), some (a_iret), some (a_aload 0 14), some (a_getI 12 38 18 17), none],
  [none, some (a_iconst 200 20), none, none, some (a_cne 26 23), none, none, some (a_iconst (-3) 25), none, some (a_iret), some (a_aload 0 27), some (a_getR 12 38 17 30), none, none, some (a_aload 0 31), some (a_getI 12 38 18 34)],
  [none, none, some (a_iload 1 35), some (a_iast 36), some (a_aload 0 37), some (a_dup 38), some (a_getI 12 38 18 41), none, none, some (a_iconst 1 42), some (a_iadd 43), some (a_putI 12 38 18 46), none, none, some (a_aload 0 47), some (a_getI 12 38 18 50)],
  [none, none, some (a_iret)]]
def t_110 : ax_T := [[some (a_aload 0 1), some (a_getI 12 38 18 4), none, none, some (a_istore 1 5), some (a_aload 0 6), some (a_iconst 0 7), some (a_putI 12 38 18 10), none, none, some (a_iload 1 11), some (a_iret)]]
def t_111 : ax_T := [[some (a_iload 1 1), some (a_aload 0 2), some (a_getI 12 38 18 5), none, none, some (a_cge 17 8), none, none, some (a_aload 0 9), some (a_getR 12 38 17 12), none, none, some (a_iload 1 13), some (a_iald 14), some (a_goto 18), none],
  [none, some (a_iconst (-1) 18), some (a_iret)]]
def t_112 : ax_T := [[some (a_iload 0 1), some (a_iconst 48 3), none, some (a_iconst 57 5), none, some (a_callS 104 3 8), none, none, some (a_zret)]]
def t_113 : ax_T := [[some (a_iconst 0 1), some (a_istore 2 2), some (a_iload 2 3), some (a_iload 1 4), some (a_cge 144 7), none, none, some (a_aload 0 8), some (a_aload 0 9), some (a_getI 12 38 19 12), none, none, some (a_callV 12 38 111 1 15), none, none, some (a_callS 112 1 18)],
  [none, none, some (a_zne 23 21), none, none, some (a_iconst 0 22), some (a_zret), some (a_aload 0 24), some (a_getR 12 38 20 27), none, none, some (a_iload 2 28), some (a_aload 0 29), some (a_aload 0 30), some (a_getI 12 38 19 33), none],
  [none, some (a_callV 12 38 111 1 36), none, none, some (a_iconst 48 38), none, some (a_isub 39), some (a_iast 40), some (a_aload 0 41), some (a_dup 42), some (a_getI 12 38 19 45), none, none, some (a_iconst 1 46), some (a_iadd 47), some (a_putI 12 38 19 50)],
  [none, none, some (a_aload 0 51), some (a_aload 0 52), some (a_getI 12 38 19 55), none, none, some (a_callV 12 38 111 1 58), none, none, some (a_callS 112 1 61), none, none, some (a_zeq 101 64), none, none],
  [some (a_aload 0 65), some (a_getR 12 38 20 68), none, none, some (a_iload 2 69), some (a_iconst 10 71), none, some (a_aload 0 72), some (a_getR 12 38 20 75), none, none, some (a_iload 2 76), some (a_iald 77), some (a_imul 78), some (a_aload 0 79), some (a_aload 0 80)],
  [some (a_getI 12 38 19 83), none, none, some (a_callV 12 38 111 1 86), none, none, some (a_iadd 87), some (a_iconst 48 89), none, some (a_isub 90), some (a_iast 91), some (a_aload 0 92), some (a_dup 93), some (a_getI 12 38 19 96), none, none],
  [some (a_iconst 1 97), some (a_iadd 98), some (a_putI 12 38 19 101), none, none, some (a_aload 0 102), some (a_aload 0 103), some (a_getI 12 38 19 106), none, none, some (a_callV 12 38 111 1 109), none, none, some (a_iload 2 110), some (a_iload 1 111), some (a_iconst 1 112)],
  [some (a_isub 113), some (a_cge 121 116), none, none, some (a_iconst 44 118), none, some (a_goto 123), none, none, some (a_iconst 59 123), none, some (a_ceq 128 126), none, none, some (a_iconst 0 127), some (a_zret)],
  [some (a_aload 0 129), some (a_dup 130), some (a_getI 12 38 19 133), none, none, some (a_iconst 1 134), some (a_iadd 135), some (a_putI 12 38 19 138), none, none, some (a_iinc 2 1 141), none, none, some (a_goto 2), none, none],
  [some (a_iconst 1 145), some (a_zret)]]
def t_114 : ax_T := [[some (a_aload 0 1), some (a_getR 12 38 20 4), none, none, some (a_iload 1 5), some (a_iald 6), some (a_iload 2 7), some (a_iload 3 8), some (a_callS 104 3 11), none, none, some (a_zret)]]
def t_115 : ax_T := [[some (a_iconst 0 1), some (a_istore 4 3), none, some (a_iload 4 5), none, some (a_iload 3 6), some (a_cge 25 9), none, none, some (a_aload 0 10), some (a_iload 1 11), some (a_iload 4 13), none, some (a_iadd 14), some (a_aload 2 15), some (a_iload 4 17)],
  [none, some (a_iald 18), some (a_iast 19), some (a_iinc 4 1 22), none, none, some (a_goto 3), none, none, some (a_vret)]]
def t_116 : ax_T := [[some (a_aload 0 1), some (a_getI 12 38 21 4), none, none, some (a_iconst 6 6), none, some (a_ceq 60 9), none, none, some (a_aload 0 10), some (a_iconst 4 11), some (a_callV 12 38 113 1 14), none, none, some (a_zeq 60 17), none],
  [none, some (a_aload 0 18), some (a_iconst 0 19), some (a_iconst 0 20), some (a_iconst 60 22), none, some (a_callV 12 38 114 3 25), none, none, some (a_zeq 60 28), none, none, some (a_aload 0 29), some (a_iconst 1 30), some (a_iconst 1 31), some (a_iconst 9 33)],
  [none, some (a_callV 12 38 114 3 36), none, none, some (a_zeq 60 39), none, none, some (a_aload 0 40), some (a_iconst 2 41), some (a_iconst 0 42), some (a_iconst 3 43), some (a_callV 12 38 114 3 46), none, none, some (a_zeq 60 49), none],
  [none, some (a_aload 0 50), some (a_iconst 3 51), some (a_iconst 0 52), some (a_iconst 20 54), none, some (a_callV 12 38 114 3 57), none, none, some (a_zne 62 60), none, none, some (a_iconst 0 61), some (a_zret), some (a_aload 0 63), some (a_getR 12 38 22 66)],
  [none, none, some (a_iconst 3 67), some (a_aload 0 68), some (a_getI 12 38 21 71), none, none, some (a_imul 72), some (a_aload 0 73), some (a_getR 12 38 20 76), none, none, some (a_iconst 3 77), some (a_callS 115 4 80), none, none],
  [some (a_aload 0 81), some (a_getR 12 38 31 84), none, none, some (a_iconst 0 85), some (a_aload 0 86), some (a_getI 12 38 21 89), none, none, some (a_iadd 90), some (a_aload 0 91), some (a_getR 12 38 20 94), none, none, some (a_iconst 3 95), some (a_iald 96)],
  [some (a_iast 97), some (a_aload 0 98), some (a_dup 99), some (a_getI 12 38 21 102), none, none, some (a_iconst 1 103), some (a_iadd 104), some (a_putI 12 38 21 107), none, none, some (a_iconst 1 108), some (a_zret)]]
def t_117 : ax_T := [[some (a_aload 0 1), some (a_iconst 0 2), some (a_iconst 0 3), some (a_aload 0 4), some (a_getI 12 38 21 7), none, none, some (a_iconst 1 8), some (a_isub 9), some (a_callV 12 38 114 3 12), none, none, some (a_zeq 42 15), none, none, some (a_aload 0 16)],
  [some (a_iconst 1 17), some (a_iconst 6 19), none, some (a_iconst 18 21), none, some (a_callV 12 38 114 3 24), none, none, some (a_zeq 42 27), none, none, some (a_aload 0 28), some (a_iconst 2 29), some (a_iconst 0 30), some (a_iconst 60 32), none],
  [some (a_callV 12 38 114 3 35), none, none, some (a_zeq 42 38), none, none, some (a_iconst 1 39), some (a_goto 43), none, none, some (a_iconst 0 43), some (a_zret)]]
def t_118 : ax_T := [[some (a_aload 0 1), some (a_getR 12 38 31 4), none, none, some (a_iconst 6 6), none, some (a_iald 7), some (a_iconst 9 9), none, some (a_ceq 27 12), none, none, some (a_aload 0 13), some (a_iconst 3 14), some (a_callV 12 38 113 1 17), none],
  [none, some (a_zeq 27 20), none, none, some (a_aload 0 21), some (a_callV 12 38 117 0 24), none, none, some (a_zne 29 27), none, none, some (a_iconst 0 28), some (a_zret), some (a_aload 0 30), some (a_getR 12 38 31 33), none],
  [none, some (a_iconst 7 35), none, some (a_iconst 3 36), some (a_aload 0 37), some (a_getR 12 38 31 40), none, none, some (a_iconst 6 42), none, some (a_iald 43), some (a_imul 44), some (a_iadd 45), some (a_aload 0 46), some (a_getR 12 38 20 49), none],
  [none, some (a_iconst 3 50), some (a_callS 115 4 53), none, none, some (a_aload 0 54), some (a_getR 12 38 31 57), none, none, some (a_iconst 6 59), none, some (a_dup2 60), some (a_iald 61), some (a_iconst 1 62), some (a_iadd 63), some (a_iast 64)],
  [some (a_iconst 1 65), some (a_zret)]]
def t_119 : ax_T := [[some (a_aload 0 1), some (a_getI 12 38 23 4), none, none, some (a_iconst 6 6), none, some (a_ceq 24 9), none, none, some (a_aload 0 10), some (a_iconst 3 11), some (a_callV 12 38 113 1 14), none, none, some (a_zeq 24 17), none],
  [none, some (a_aload 0 18), some (a_callV 12 38 117 0 21), none, none, some (a_zne 26 24), none, none, some (a_iconst 0 25), some (a_zret), some (a_aload 0 27), some (a_getR 12 38 24 30), none, none, some (a_iconst 3 31), some (a_aload 0 32)],
  [some (a_getI 12 38 23 35), none, none, some (a_imul 36), some (a_aload 0 37), some (a_getR 12 38 20 40), none, none, some (a_iconst 3 41), some (a_callS 115 4 44), none, none, some (a_aload 0 45), some (a_dup 46), some (a_getI 12 38 23 49), none],
  [none, some (a_iconst 1 50), some (a_iadd 51), some (a_putI 12 38 23 54), none, none, some (a_iconst 1 55), some (a_zret)]]
def t_120 : ax_T := [[some (a_aload 0 1), some (a_getI 12 38 25 4), none, none, some (a_iconst 7 6), none, some (a_ceq 28 9), none, none, some (a_aload 0 10), some (a_iconst 1 11), some (a_callV 12 38 113 1 14), none, none, some (a_zeq 28 17), none],
  [none, some (a_aload 0 18), some (a_iconst 0 19), some (a_iconst 1 20), some (a_iconst 40 22), none, some (a_callV 12 38 114 3 25), none, none, some (a_zne 30 28), none, none, some (a_iconst 0 29), some (a_zret), some (a_aload 0 31), some (a_getR 12 38 26 34)],
  [none, none, some (a_aload 0 35), some (a_getI 12 38 25 38), none, none, some (a_aload 0 39), some (a_getR 12 38 20 42), none, none, some (a_iconst 0 43), some (a_iald 44), some (a_iast 45), some (a_aload 0 46), some (a_dup 47), some (a_getI 12 38 25 50)],
  [none, none, some (a_iconst 1 51), some (a_iadd 52), some (a_putI 12 38 25 55), none, none, some (a_iconst 1 56), some (a_zret)]]
def t_121 : ax_T := [[some (a_aload 0 1), some (a_getI 12 38 27 4), none, none, some (a_iconst 3 5), some (a_ceq 27 8), none, none, some (a_aload 0 9), some (a_iconst 1 10), some (a_callV 12 38 113 1 13), none, none, some (a_zeq 27 16), none, none],
  [some (a_aload 0 17), some (a_iconst 0 18), some (a_iconst 1 19), some (a_iconst 60 21), none, some (a_callV 12 38 114 3 24), none, none, some (a_zne 29 27), none, none, some (a_iconst 0 28), some (a_zret), some (a_aload 0 30), some (a_getR 12 38 28 33), none],
  [none, some (a_aload 0 34), some (a_getI 12 38 27 37), none, none, some (a_aload 0 38), some (a_getR 12 38 20 41), none, none, some (a_iconst 0 42), some (a_iald 43), some (a_iast 44), some (a_aload 0 45), some (a_dup 46), some (a_getI 12 38 27 49), none],
  [none, some (a_iconst 1 50), some (a_iadd 51), some (a_putI 12 38 27 54), none, none, some (a_iconst 1 55), some (a_zret)]]
def t_122 : ax_T := [[some (a_aload 0 1), some (a_getI 12 38 29 4), none, none, some (a_iconst 6 6), none, some (a_ceq 39 9), none, none, some (a_aload 0 10), some (a_iconst 2 11), some (a_callV 12 38 113 1 14), none, none, some (a_zeq 39 17), none],
  [none, some (a_aload 0 18), some (a_iconst 0 19), some (a_iconst 1 20), some (a_iconst 9 22), none, some (a_callV 12 38 114 3 25), none, none, some (a_zeq 39 28), none, none, some (a_aload 0 29), some (a_iconst 1 30), some (a_iconst 1 31), some (a_iconst 60 33)],
  [none, some (a_callV 12 38 114 3 36), none, none, some (a_zne 41 39), none, none, some (a_iconst 0 40), some (a_zret), some (a_aload 0 42), some (a_getR 12 38 30 45), none, none, some (a_iconst 2 46), some (a_aload 0 47), some (a_getI 12 38 29 50)],
  [none, none, some (a_imul 51), some (a_aload 0 52), some (a_getR 12 38 20 55), none, none, some (a_iconst 2 56), some (a_callS 115 4 59), none, none, some (a_aload 0 60), some (a_dup 61), some (a_getI 12 38 29 64), none, none],
  [some (a_iconst 1 65), some (a_iadd 66), some (a_putI 12 38 29 69), none, none, some (a_iconst 1 70), some (a_zret)]]
def t_123 : ax_T := [[some (a_aload 0 1), some (a_aload 0 2), some (a_getI 12 38 19 5), none, none, some (a_callV 12 38 111 1 8), none, none, some (a_istore 1 9), some (a_aload 0 10), some (a_dup 11), some (a_getI 12 38 19 14), none, none, some (a_iconst 1 15), some (a_iadd 16)],
  [some (a_putI 12 38 19 19), none, none, some (a_iload 1 20), some (a_tsw 102 119 [133, 138, 138, 138, 138, 138, 118, 138, 138, 128, 108, 138, 123, 138, 138, 138, 138, 113] 138), none, none, none, none, none, none, none, none, none, none, none],
  [none, none, none, none, none, none, none, none, none, none, none, none, none, none, none, none],
  [none, none, none, none, none, none, none, none, none, none, none, none, none, none, none, none],
  [none, none, none, none, none, none, none, none, none, none, none, none, none, none, none, none],
  [none, none, none, none, none, none, none, none, none, none, none, none, none, none, none, none],
  [none, none, none, none, none, none, none, none, none, none, none, none, some (a_aload 0 109), some (a_callV 12 38 116 0 112), none, none],
  [some (a_zret), some (a_aload 0 114), some (a_callV 12 38 118 0 117), none, none, some (a_zret), some (a_aload 0 119), some (a_callV 12 38 119 0 122), none, none, some (a_zret), some (a_aload 0 124), some (a_callV 12 38 120 0 127), none, none, some (a_zret)],
  [some (a_aload 0 129), some (a_callV 12 38 121 0 132), none, none, some (a_zret), some (a_aload 0 134), some (a_callV 12 38 122 0 137), none, none, some (a_zret), some (a_iconst 0 139), some (a_zret)]]
def t_124 : ax_T := [[some (a_aload 0 1), some (a_iconst 0 2), some (a_putI 12 38 19 5), none, none, some (a_aload 0 6), some (a_iconst 0 7), some (a_putI 12 38 21 10), none, none, some (a_aload 0 11), some (a_iconst 0 12), some (a_putI 12 38 23 15), none, none, some (a_aload 0 16)],
  [some (a_iconst 0 17), some (a_putI 12 38 25 20), none, none, some (a_aload 0 21), some (a_iconst 0 22), some (a_putI 12 38 27 25), none, none, some (a_aload 0 26), some (a_iconst 0 27), some (a_putI 12 38 29 30), none, none, some (a_iconst 0 31), some (a_istore 1 32)],
  [some (a_iload 1 33), some (a_iconst 34 35), none, some (a_cge 51 38), none, none, some (a_aload 0 39), some (a_getR 12 38 31 42), none, none, some (a_iload 1 43), some (a_iconst 0 44), some (a_iast 45), some (a_iinc 1 1 48), none, none],
  [some (a_goto 32), none, none, some (a_aload 0 52), some (a_getI 12 38 19 55), none, none, some (a_aload 0 56), some (a_getI 12 38 18 59), none, none, some (a_cge 79 62), none, none, some (a_aload 0 63), some (a_getI 12 38 19 66)],
  [none, none, some (a_istore 1 67), some (a_aload 0 68), some (a_callV 12 38 123 0 71), none, none, some (a_zne 76 74), none, none, some (a_iload 1 75), some (a_iret), some (a_goto 51), none, none, some (a_iconst (-4) 81)],
  [none, some (a_iret)]]
def t_125 : ax_T := [[some (a_aload 0 1), some (a_callV 12 38 124 0 4), none, none, some (a_iconst (-4) 6), none, some (a_cne 16 9), none, none, some (a_aload 0 10), some (a_getI 12 38 21 13), none, none, some (a_zne 19 16), none, none],
  [some (a_iconst (-2) 18), none, some (a_iret), some (a_aload 0 20), some (a_aload 0 21), some (a_getI 12 38 21 24), none, none, some (a_putI 12 38 0 27), none, none, some (a_aload 0 28), some (a_aload 0 29), some (a_getI 12 38 23 32), none, none],
  [some (a_putI 12 38 2 35), none, none, some (a_aload 0 36), some (a_aload 0 37), some (a_getI 12 38 25 40), none, none, some (a_putI 12 38 4 43), none, none, some (a_aload 0 44), some (a_aload 0 45), some (a_getI 12 38 27 48), none, none],
  [some (a_putI 12 38 6 51), none, none, some (a_aload 0 52), some (a_aload 0 53), some (a_getI 12 38 29 56), none, none, some (a_putI 12 38 8 59), none, none, some (a_aload 0 60), some (a_getR 12 38 1 63), none, none, some (a_iconst 0 64)],
  [some (a_aload 0 65), some (a_getR 12 38 22 68), none, none, some (a_iconst 18 70), none, some (a_callS 115 4 73), none, none, some (a_aload 0 74), some (a_getR 12 38 3 77), none, none, some (a_iconst 0 78), some (a_aload 0 79), some (a_getR 12 38 24 82)],
  [none, none, some (a_iconst 18 84), none, some (a_callS 115 4 87), none, none, some (a_aload 0 88), some (a_getR 12 38 5 91), none, none, some (a_iconst 0 92), some (a_aload 0 93), some (a_getR 12 38 26 96), none, none],
  [some (a_iconst 7 98), none, some (a_callS 115 4 101), none, none, some (a_aload 0 102), some (a_getR 12 38 7 105), none, none, some (a_iconst 0 106), some (a_aload 0 107), some (a_getR 12 38 28 110), none, none, some (a_iconst 3 111), some (a_callS 115 4 114)],
  [none, none, some (a_aload 0 115), some (a_getR 12 38 9 118), none, none, some (a_iconst 0 119), some (a_aload 0 120), some (a_getR 12 38 30 123), none, none, some (a_iconst 12 125), none, some (a_callS 115 4 128), none, none],
  [some (a_aload 0 129), some (a_getR 12 38 10 132), none, none, some (a_iconst 0 133), some (a_aload 0 134), some (a_getR 12 38 31 137), none, none, some (a_iconst 34 139), none, some (a_callS 115 4 142), none, none, some (a_aload 0 143), some (a_iconst 0 144)],
  [some (a_putI 12 38 11 147), none, none, some (a_aload 0 148), some (a_iconst 0 149), some (a_putI 12 38 13 152), none, none, some (a_aload 0 153), some (a_iconst 0 154), some (a_putI 12 38 15 157), none, none, some (a_aload 0 158), some (a_getI 12 38 0 161), none],
  [none, some (a_iret)]]
def t_126 : ax_T := [[some (a_aload 0 1), some (a_getR 12 38 1 4), none, none, some (a_iconst 3 5), some (a_iload 1 6), some (a_imul 7), some (a_iald 8), some (a_istore 3 9), some (a_iconst 0 10), some (a_istore 4 12), none, some (a_iconst 0 13), some (a_istore 5 15), none, some (a_iload 5 17)],
  [none, some (a_aload 0 18), some (a_getR 12 38 10 21), none, none, some (a_iconst 6 23), none, some (a_iald 24), some (a_cge 101 27), none, none, some (a_iconst 7 29), none, some (a_iconst 3 30), some (a_iload 5 32), none],
  [some (a_imul 33), some (a_iadd 34), some (a_istore 6 36), none, some (a_aload 0 37), some (a_getR 12 38 10 40), none, none, some (a_iload 6 42), none, some (a_iald 43), some (a_iload 1 44), some (a_cne 95 47), none, none, some (a_aload 0 48)],
  [some (a_getR 12 38 10 51), none, none, some (a_iload 6 53), none, some (a_iconst 1 54), some (a_iadd 55), some (a_iald 56), some (a_iload 2 57), some (a_cgt 95 60), none, none, some (a_aload 0 61), some (a_getR 12 38 10 64), none, none],
  [some (a_iload 6 66), none, some (a_iconst 1 67), some (a_iadd 68), some (a_iald 69), some (a_iload 4 71), none, some (a_clt 95 74), none, none, some (a_aload 0 75), some (a_getR 12 38 10 78), none, none, some (a_iload 6 80), none],
  [some (a_iconst 2 81), some (a_iadd 82), some (a_iald 83), some (a_istore 3 84), some (a_aload 0 85), some (a_getR 12 38 10 88), none, none, some (a_iload 6 90), none, some (a_iconst 1 91), some (a_iadd 92), some (a_iald 93), some (a_istore 4 95), none, some (a_iinc 5 1 98)],
  [none, none, some (a_goto 15), none, none, some (a_iload 3 102), some (a_iret)]]
def t_127 : ax_T := [[some (a_iload 1 1), some (a_iconst 12 3), none, some (a_cge 13 6), none, none, some (a_iconst 12 8), none, some (a_iload 1 9), some (a_isub 10), some (a_goto 17), none, none, some (a_iload 1 14), some (a_iconst 12 16), none],
  [some (a_isub 17), some (a_iret)]]
def t_128 : ax_T := [[some (a_aload 0 1), some (a_getR 12 38 1 4), none, none, some (a_iconst 3 5), some (a_iload 1 6), some (a_imul 7), some (a_iconst 1 8), some (a_iadd 9), some (a_iald 10), some (a_aload 0 11), some (a_iload 2 12), some (a_callV 12 38 127 1 15), none, none, some (a_imul 16)],
  [some (a_iconst 2 17), some (a_idiv 18), some (a_istore 4 20), none, some (a_aload 0 21), some (a_getR 12 38 1 24), none, none, some (a_iconst 3 25), some (a_iload 1 26), some (a_imul 27), some (a_iconst 2 28), some (a_iadd 29), some (a_iald 30), some (a_istore 5 32), none],
  [some (a_iload 2 33), some (a_iconst 8 35), none, some (a_clt 44 38), none, none, some (a_iload 2 39), some (a_iconst 16 41), none, some (a_cle 48 44), none, none, some (a_iconst 1 45), some (a_goto 49), none, none],
  [some (a_iconst 0 49), some (a_istore 6 51), none, some (a_iload 5 53), none, some (a_iconst 2 54), some (a_cne 64 57), none, none, some (a_iconst 2 58), some (a_iload 4 60), none, some (a_imul 61), some (a_goto 84), none, none],
  [some (a_iload 5 66), none, some (a_iconst 3 67), some (a_cne 82 70), none, none, some (a_iload 6 72), none, some (a_zeq 82 75), none, none, some (a_iload 4 77), none, some (a_iconst 1 78), some (a_iadd 79), some (a_goto 84)],
  [none, none, some (a_iload 4 84), none, some (a_istore 7 86), none, some (a_iload 7 88), none, some (a_iload 3 89), some (a_cle 99 92), none, none, some (a_iload 7 94), none, some (a_iload 3 95), some (a_isub 96)],
  [some (a_goto 100), none, none, some (a_iconst 0 100), some (a_iret)]]
def t_129 : ax_T := [[some (a_aload 0 1), some (a_iload 1 2), some (a_iload 2 3), some (a_aload 0 4), some (a_getR 12 38 10 7), none, none, some (a_iconst 0 8), some (a_iload 1 9), some (a_iadd 10), some (a_iald 11), some (a_callV 12 38 128 3 14), none, none, some (a_iret)]]
def t_130 : ax_T := [[some (a_aload 0 1), some (a_getR 12 38 1 4), none, none, some (a_iconst 3 5), some (a_iload 1 6), some (a_imul 7), some (a_iconst 2 8), some (a_iadd 9), some (a_iald 10), some (a_iconst 1 11), some (a_cne 20 14), none, none, some (a_iload 2 15), some (a_iconst 3 16)],
  [some (a_iadd 17), some (a_goto 21), none, none, some (a_iload 2 21), some (a_istore 3 22), some (a_iload 3 23), some (a_iconst 12 25), none, some (a_cge 32 28), none, none, some (a_iconst (-1) 29), some (a_goto 33), none, none],
  [some (a_iconst 1 33), some (a_iret)]]
def t_131 : ax_T := [[some (a_aload 0 1), some (a_iload 1 2), some (a_iload 2 3), some (a_callV 12 38 126 2 6), none, none, some (a_aload 0 7), some (a_iload 1 8), some (a_iload 2 9), some (a_callV 12 38 130 2 12), none, none, some (a_aload 0 13), some (a_iload 1 14), some (a_iload 2 15), some (a_callV 12 38 129 2 18)],
  [none, none, some (a_imul 19), some (a_iadd 20), some (a_iret)]]
def t_132 : ax_T := [[some (a_iload 3 1), some (a_iload 0 2), some (a_isub 3), some (a_iload 1 4), some (a_imul 5), some (a_istore 4 7), none, some (a_iload 4 9), none, some (a_zle 22 12), none, none, some (a_iload 4 14), none, some (a_iload 2 15), some (a_cgt 22 18)],
  [none, none, some (a_iconst 1 19), some (a_goto 23), none, none, some (a_iconst 0 23), some (a_zret)]]
def t_133 : ax_T := [[some (a_aload 0 1), some (a_iload 1 2), some (a_callV 12 38 107 1 5), none, none, some (a_zeq 17 8), none, none, some (a_iload 2 9), some (a_iconst 0 10), some (a_iconst 2 11), some (a_callS 104 3 14), none, none, some (a_zne 19 17), none],
  [none, some (a_iconst (-1) 18), some (a_iret), some (a_iload 2 20), some (a_iconst 2 21), some (a_cge 39 24), none, none, some (a_aload 0 25), some (a_getR 12 38 1 28), none, none, some (a_iconst 3 29), some (a_iload 1 30), some (a_imul 31), some (a_iconst 1 32)],
  [some (a_iadd 33), some (a_iload 2 34), some (a_iadd 35), some (a_iald 36), some (a_goto 50), none, none, some (a_aload 0 40), some (a_getR 12 38 10 43), none, none, some (a_iconst 0 44), some (a_iload 1 45), some (a_iadd 46), some (a_iald 47), some (a_iconst 9 49)],
  [none, some (a_iadd 50), some (a_iret)]]
def t_134 : ax_T := [[some (a_aload 0 1), some (a_iload 1 2), some (a_callV 12 38 107 1 5), none, none, some (a_zeq 24 8), none, none, some (a_iload 2 9), some (a_callS 108 1 12), none, none, some (a_zeq 24 15), none, none, some (a_aload 0 16)],
  [some (a_iload 1 17), some (a_iload 2 18), some (a_callV 12 38 126 2 21), none, none, some (a_goto 25), none, none, some (a_iconst (-1) 25), some (a_iret)]]
def t_135 : ax_T := [[some (a_aload 0 1), some (a_iload 1 2), some (a_callV 12 38 107 1 5), none, none, some (a_zeq 24 8), none, none, some (a_iload 2 9), some (a_callS 108 1 12), none, none, some (a_zeq 24 15), none, none, some (a_iload 3 16)],
  [some (a_iconst 0 17), some (a_iconst 2 18), some (a_callS 104 3 21), none, none, some (a_zne 26 24), none, none, some (a_iconst (-1) 25), some (a_iret), some (a_aload 0 27), some (a_iload 1 28), some (a_iload 2 29), some (a_callV 12 38 129 2 32), none, none],
  [some (a_istore 4 34), none, some (a_iload 3 35), some (a_zne 41 38), none, none, some (a_iload 4 40), none, some (a_iret), some (a_iload 4 43), none, some (a_zne 49 46), none, none, some (a_iconst (-4) 48), none],
  [some (a_iret), some (a_aload 0 50), some (a_iload 1 51), some (a_iload 2 52), some (a_callV 12 38 126 2 55), none, none, some (a_aload 0 56), some (a_iload 1 57), some (a_iload 2 58), some (a_callV 12 38 130 2 61), none, none, some (a_iadd 62), some (a_istore 5 64), none],
  [some (a_aload 0 65), some (a_iload 1 66), some (a_iload 2 67), some (a_callV 12 38 131 2 70), none, none, some (a_istore 6 72), none, some (a_aload 0 73), some (a_iload 1 74), some (a_iload 2 75), some (a_callV 12 38 130 2 78), none, none, some (a_zge 85 81), none],
  [none, some (a_iconst 1 82), some (a_goto 86), none, none, some (a_iconst 0 86), some (a_iload 3 87), some (a_iconst 1 88), some (a_cne 95 91), none, none, some (a_iconst 1 92), some (a_goto 96), none, none, some (a_iconst 0 96)],
  [some (a_cne 103 99), none, none, some (a_iconst 1 100), some (a_goto 104), none, none, some (a_iconst 0 104), some (a_istore 7 106), none, some (a_iconst 200 109), none, none, some (a_iload 7 111), none, some (a_zeq 119 114)],
  [none, none, some (a_iload 6 116), none, some (a_goto 121), none, none, some (a_iload 5 121), none, some (a_iadd 122), some (a_iret)]]
def t_136 : ax_T := [[some (a_iload 1 1), some (a_iconst 0 2), some (a_iconst 60 4), none, some (a_callS 104 3 7), none, none, some (a_zeq 17 10), none, none, some (a_iload 2 11), some (a_callS 108 1 14), none, none, some (a_zne 19 17), none],
  [none, some (a_iconst (-1) 18), some (a_iret), some (a_iconst 0 20), some (a_istore 3 21), some (a_iconst 0 22), some (a_istore 4 24), none, some (a_iload 4 26), none, some (a_aload 0 27), some (a_getI 12 38 0 30), none, none, some (a_cge 78 33), none],
  [none, some (a_iload 3 34), some (a_aload 0 35), some (a_iload 4 37), none, some (a_iload 2 38), some (a_callV 12 38 126 2 41), none, none, some (a_aload 0 42), some (a_iload 4 44), none, some (a_iload 2 45), some (a_callV 12 38 130 2 48), none, none],
  [some (a_aload 0 49), some (a_iload 4 51), none, some (a_iload 2 52), some (a_callV 12 38 129 2 55), none, none, some (a_iload 1 56), some (a_callS 132 4 59), none, none, some (a_zeq 69 62), none, none, some (a_iconst 1 63), some (a_iload 4 65)],
  [none, some (a_ishl 66), some (a_goto 70), none, none, some (a_iconst 0 70), some (a_ior 71), some (a_istore 3 72), some (a_iinc 4 1 75), none, none, some (a_goto 24), none, none, some (a_iload 3 79), some (a_iret)]]
def t_137 : ax_T := [[some (a_iconst 0 1), some (a_istore 4 3), none, some (a_iconst 0 4), some (a_istore 5 6), none, some (a_iload 5 8), none, some (a_aload 0 9), some (a_getI 12 38 0 12), none, none, some (a_cge 66 15), none, none, some (a_iload 4 17)],
  [none, some (a_iload 5 19), none, some (a_iload 1 20), some (a_ceq 56 23), none, none, some (a_aload 0 24), some (a_iload 1 25), some (a_iload 2 26), some (a_callV 12 38 126 2 29), none, none, some (a_aload 0 30), some (a_iload 1 31), some (a_iload 2 32)],
  [some (a_callV 12 38 130 2 35), none, none, some (a_iload 3 36), some (a_aload 0 37), some (a_iload 5 39), none, some (a_iload 2 40), some (a_callV 12 38 126 2 43), none, none, some (a_callS 132 4 46), none, none, some (a_zeq 56 49), none],
  [none, some (a_iconst 1 50), some (a_iload 5 52), none, some (a_ishl 53), some (a_goto 57), none, none, some (a_iconst 0 57), some (a_ior 58), some (a_istore 4 60), none, some (a_iinc 5 1 63), none, none, some (a_goto 6)],
  [none, none, some (a_iload 4 68), none, some (a_iret)]]
def t_138 : ax_T := [[some (a_aload 0 1), some (a_iload 1 2), some (a_iload 2 3), some (a_aload 0 4), some (a_iload 1 5), some (a_iload 2 6), some (a_callV 12 38 129 2 9), none, none, some (a_callV 12 38 137 3 12), none, none, some (a_iret)]]
def t_139 : ax_T := [[some (a_aload 0 1), some (a_iload 1 2), some (a_callV 12 38 107 1 5), none, none, some (a_zeq 24 8), none, none, some (a_iload 2 9), some (a_callS 108 1 12), none, none, some (a_zeq 24 15), none, none, some (a_aload 0 16)],
  [some (a_iload 1 17), some (a_iload 2 18), some (a_callV 12 38 138 2 21), none, none, some (a_goto 25), none, none, some (a_iconst (-1) 25), some (a_iret)]]
def t_140 : ax_T := [[some (a_aload 0 1), some (a_iload 1 2), some (a_callV 12 38 107 1 5), none, none, some (a_zeq 15 8), none, none, some (a_iload 2 9), some (a_callS 108 1 12), none, none, some (a_zne 17 15), none, none, some (a_iconst (-1) 16)],
  [some (a_iret), some (a_iconst 0 18), some (a_istore 3 19), some (a_iconst 6 21), none, some (a_istore 4 23), none, some (a_iload 4 25), none, some (a_iload 2 26), some (a_cgt 48 29), none, none, some (a_iload 3 30), some (a_aload 0 31), some (a_iload 1 32)],
  [some (a_iload 4 34), none, some (a_callV 12 38 138 2 37), none, none, some (a_callS 106 1 40), none, none, some (a_iadd 41), some (a_istore 3 42), some (a_iinc 4 1 45), none, none, some (a_goto 23), none, none],
  [some (a_iload 3 49), some (a_iret)]]
def t_141 : ax_T := [[some (a_aload 0 1), some (a_getI 12 38 11 4), none, none, some (a_iconst 8 6), none, some (a_cne 49 9), none, none, some (a_iconst 0 10), some (a_istore 1 11), some (a_iload 1 12), some (a_iconst 238 15), none, none, some (a_cge 39 18)],
  [none, none, some (a_aload 0 19), some (a_getR 12 38 12 22), none, none, some (a_iload 1 23), some (a_aload 0 24), some (a_getR 12 38 12 27), none, none, some (a_iload 1 28), some (a_iconst 34 30), none, some (a_iadd 31), some (a_iald 32)],
  [some (a_iast 33), some (a_iinc 1 1 36), none, none, some (a_goto 11), none, none, some (a_aload 0 40), some (a_dup 41), some (a_getI 12 38 11 44), none, none, some (a_iconst 1 45), some (a_isub 46), some (a_putI 12 38 11 49), none],
  [none, some (a_iconst 0 50), some (a_istore 1 51), some (a_iload 1 52), some (a_iconst 34 54), none, some (a_cge 83 57), none, none, some (a_aload 0 58), some (a_getR 12 38 12 61), none, none, some (a_iconst 34 63), none, some (a_aload 0 64)],
  [some (a_getI 12 38 11 67), none, none, some (a_imul 68), some (a_iload 1 69), some (a_iadd 70), some (a_aload 0 71), some (a_getR 12 38 10 74), none, none, some (a_iload 1 75), some (a_iald 76), some (a_iast 77), some (a_iinc 1 1 80), none, none],
  [some (a_goto 51), none, none, some (a_aload 0 84), some (a_dup 85), some (a_getI 12 38 11 88), none, none, some (a_iconst 1 89), some (a_iadd 90), some (a_putI 12 38 11 93), none, none, some (a_vret)]]
def t_142 : ax_T := [[some (a_aload 0 1), some (a_iload 1 2), some (a_callV 12 38 107 1 5), none, none, some (a_zeq 18 8), none, none, some (a_iload 2 9), some (a_iconst 0 10), some (a_iconst 29 12), none, some (a_callS 104 3 15), none, none, some (a_zne 20 18)],
  [none, none, some (a_iconst (-1) 19), some (a_iret), some (a_aload 0 21), some (a_callV 12 38 141 0 24), none, none, some (a_aload 0 25), some (a_getR 12 38 10 28), none, none, some (a_iconst 0 29), some (a_iload 1 30), some (a_iadd 31), some (a_iald 32)],
  [some (a_iconst 9 34), none, some (a_iadd 35), some (a_istore 3 36), some (a_aload 0 37), some (a_getR 12 38 10 40), none, none, some (a_iconst 0 41), some (a_iload 1 42), some (a_iadd 43), some (a_iload 2 44), some (a_iconst 9 46), none, some (a_isub 47), some (a_iast 48)],
  [some (a_iload 3 49), some (a_iret)]]
def t_143 : ax_T := [[some (a_aload 0 1), some (a_iload 1 2), some (a_callV 12 38 107 1 5), none, none, some (a_zeq 25 8), none, none, some (a_iload 2 9), some (a_callS 108 1 12), none, none, some (a_zeq 25 15), none, none, some (a_iload 3 16)],
  [some (a_iconst 0 17), some (a_iconst 60 19), none, some (a_callS 104 3 22), none, none, some (a_zne 27 25), none, none, some (a_iconst (-1) 26), some (a_iret), some (a_aload 0 28), some (a_getR 12 38 10 31), none, none, some (a_iconst 6 33)],
  [none, some (a_iald 34), some (a_iconst 9 36), none, some (a_cne 42 39), none, none, some (a_iconst (-3) 41), none, some (a_iret), some (a_aload 0 43), some (a_callV 12 38 141 0 46), none, none, some (a_aload 0 47), some (a_getR 12 38 10 50)],
  [none, none, some (a_iconst 7 52), none, some (a_iconst 3 53), some (a_aload 0 54), some (a_getR 12 38 10 57), none, none, some (a_iconst 6 59), none, some (a_iald 60), some (a_imul 61), some (a_iadd 62), some (a_iload 1 63), some (a_iload 2 64)],
  [some (a_iload 3 65), some (a_callS 103 5 68), none, none, some (a_aload 0 69), some (a_getR 12 38 10 72), none, none, some (a_iconst 6 74), none, some (a_dup2 75), some (a_iald 76), some (a_iconst 1 77), some (a_iadd 78), some (a_iast 79), some (a_aload 0 80)],
  [some (a_getR 12 38 10 83), none, none, some (a_iconst 6 85), none, some (a_iald 86), some (a_iret)]]
def t_144 : ax_T := [[some (a_aload 0 1), some (a_getI 12 38 11 4), none, none, some (a_zne 10 7), none, none, some (a_iconst (-2) 9), none, some (a_iret), some (a_aload 0 11), some (a_dup 12), some (a_getI 12 38 11 15), none, none, some (a_iconst 1 16)],
  [some (a_isub 17), some (a_putI 12 38 11 20), none, none, some (a_iconst 0 21), some (a_istore 1 22), some (a_iload 1 23), some (a_iconst 34 25), none, some (a_cge 54 28), none, none, some (a_aload 0 29), some (a_getR 12 38 10 32), none, none],
  [some (a_iload 1 33), some (a_aload 0 34), some (a_getR 12 38 12 37), none, none, some (a_iconst 34 39), none, some (a_aload 0 40), some (a_getI 12 38 11 43), none, none, some (a_imul 44), some (a_iload 1 45), some (a_iadd 46), some (a_iald 47), some (a_iast 48)],
  [some (a_iinc 1 1 51), none, none, some (a_goto 22), none, none, some (a_aload 0 55), some (a_getI 12 38 11 58), none, none, some (a_iret)]]
def t_145 : ax_T := [[some (a_iload 1 1), some (a_iconst 0 2), some (a_iconst 2 3), some (a_callS 104 3 6), none, none, some (a_zne 11 9), none, none, some (a_iconst (-1) 10), some (a_iret), some (a_iconst 6 13), none, some (a_istore 2 14), some (a_iload 2 15), some (a_iconst 18 17)],
  [none, some (a_cgt 78 20), none, none, some (a_iconst 0 21), some (a_istore 3 22), some (a_iload 3 23), some (a_aload 0 24), some (a_getI 12 38 0 27), none, none, some (a_cge 72 30), none, none, some (a_aload 0 31), some (a_iload 3 32)],
  [some (a_iload 2 33), some (a_callV 12 38 138 2 36), none, none, some (a_istore 4 38), none, some (a_iload 4 40), none, some (a_zle 66 43), none, none, some (a_iload 1 44), some (a_zne 51 47), none, none, some (a_iload 2 48)],
  [some (a_goto 65), none, none, some (a_iload 1 52), some (a_iconst 1 53), some (a_cne 60 56), none, none, some (a_iload 3 57), some (a_goto 65), none, none, some (a_iload 4 62), none, some (a_callS 146 1 65), none],
  [none, some (a_iret), some (a_iinc 3 1 69), none, none, some (a_goto 22), none, none, some (a_iinc 2 1 75), none, none, some (a_goto 14), none, none, some (a_iconst (-4) 80), none],
  [some (a_iret)]]
def t_146 : ax_T := [[some (a_iconst 0 1), some (a_istore 1 2), some (a_iload 0 3), some (a_iload 1 4), some (a_callS 105 2 7), none, none, some (a_zne 16 10), none, none, some (a_iinc 1 1 13), none, none, some (a_goto 2), none, none],
  [some (a_iload 1 17), some (a_iret)]]
def t_147 : ax_T := [[some (a_iconst 0 1), some (a_istore 1 2), some (a_iload 1 3), some (a_aload 0 4), some (a_getI 12 38 2 7), none, none, some (a_cge 53 10), none, none, some (a_aload 0 11), some (a_aload 0 12), some (a_getR 12 38 3 15), none, none, some (a_iconst 3 16)],
  [some (a_iload 1 17), some (a_imul 18), some (a_iald 19), some (a_aload 0 20), some (a_getR 12 38 3 23), none, none, some (a_iconst 3 24), some (a_iload 1 25), some (a_imul 26), some (a_iconst 1 27), some (a_iadd 28), some (a_iald 29), some (a_callV 12 38 129 2 32), none, none],
  [some (a_aload 0 33), some (a_getR 12 38 3 36), none, none, some (a_iconst 3 37), some (a_iload 1 38), some (a_imul 39), some (a_iconst 2 40), some (a_iadd 41), some (a_iald 42), some (a_cle 47 45), none, none, some (a_iload 1 46), some (a_iret), some (a_iinc 1 1 50)],
  [none, none, some (a_goto 2), none, none, some (a_iconst (-4) 55), none, some (a_iret)]]
def t_148 : ax_T := [[some (a_iconst 1 1), some (a_istore 5 3), none, some (a_iload 2 4), some (a_istore 6 6), none, some (a_iload 6 8), none, some (a_iload 3 9), some (a_cgt 49 12), none, none, some (a_iload 5 14), none, some (a_zeq 40 17), none],
  [none, some (a_aload 0 18), some (a_iload 1 19), some (a_iload 6 21), none, some (a_aload 0 22), some (a_iload 1 23), some (a_iload 6 25), none, some (a_iload 4 27), none, some (a_callV 12 38 128 3 30), none, none, some (a_callV 12 38 137 3 33), none],
  [none, some (a_zne 40 36), none, none, some (a_iconst 1 37), some (a_goto 41), none, none, some (a_iconst 0 41), some (a_istore 5 43), none, some (a_iinc 6 1 46), none, none, some (a_goto 6), none],
  [none, some (a_iconst 0 50), some (a_istore 6 52), none, some (a_iload 6 54), none, some (a_aload 0 55), some (a_getI 12 38 2 58), none, none, some (a_cge 124 61), none, none, some (a_iload 5 63), none, some (a_zeq 115 66)],
  [none, none, some (a_aload 0 67), some (a_getR 12 38 3 70), none, none, some (a_iconst 3 71), some (a_iload 6 73), none, some (a_imul 74), some (a_iald 75), some (a_iload 1 76), some (a_cne 111 79), none, none, some (a_aload 0 80)],
  [some (a_iload 1 81), some (a_aload 0 82), some (a_getR 12 38 3 85), none, none, some (a_iconst 3 86), some (a_iload 6 88), none, some (a_imul 89), some (a_iconst 1 90), some (a_iadd 91), some (a_iald 92), some (a_iload 4 94), none, some (a_callV 12 38 128 3 97), none],
  [none, some (a_aload 0 98), some (a_getR 12 38 3 101), none, none, some (a_iconst 3 102), some (a_iload 6 104), none, some (a_imul 105), some (a_iconst 2 106), some (a_iadd 107), some (a_iald 108), some (a_cgt 115 111), none, none, some (a_iconst 1 112)],
  [some (a_goto 116), none, none, some (a_iconst 0 116), some (a_istore 5 118), none, some (a_iinc 6 1 121), none, none, some (a_goto 52), none, none, some (a_iload 5 126), none, some (a_zret)]]
def t_149 : ax_T := [[some (a_aload 0 1), some (a_iload 1 2), some (a_callV 12 38 107 1 5), none, none, some (a_zeq 27 8), none, none, some (a_iload 2 9), some (a_callS 108 1 12), none, none, some (a_zeq 27 15), none, none, some (a_iload 3 16)],
  [some (a_callS 108 1 19), none, none, some (a_zeq 27 22), none, none, some (a_iload 3 23), some (a_iload 2 24), some (a_cge 29 27), none, none, some (a_iconst (-1) 28), some (a_iret), some (a_iconst 0 30), some (a_istore 4 32), none],
  [some (a_iload 4 34), none, some (a_iconst 20 36), none, some (a_cgt 60 39), none, none, some (a_aload 0 40), some (a_iload 1 41), some (a_iload 2 42), some (a_iload 3 43), some (a_iload 4 45), none, some (a_callV 12 38 148 4 48), none, none],
  [some (a_zeq 54 51), none, none, some (a_iload 4 53), none, some (a_iret), some (a_iinc 4 1 57), none, none, some (a_goto 32), none, none, some (a_iconst (-4) 62), none, some (a_iret)]]
def t_150 : ax_T := [[some (a_iload 1 1), some (a_callS 108 1 4), none, none, some (a_zeq 18 7), none, none, some (a_iload 2 8), some (a_iconst 0 9), some (a_iconst 140 12), none, none, some (a_callS 104 3 15), none, none, some (a_zne 20 18)],
  [none, none, some (a_iconst (-1) 19), some (a_iret), some (a_aload 0 21), some (a_getI 12 38 15 24), none, none, some (a_iconst 6 26), none, some (a_cne 32 29), none, none, some (a_iconst (-3) 31), none, some (a_iret)],
  [some (a_aload 0 33), some (a_getR 12 38 16 36), none, none, some (a_iconst 2 37), some (a_aload 0 38), some (a_getI 12 38 15 41), none, none, some (a_imul 42), some (a_iload 1 43), some (a_iast 44), some (a_aload 0 45), some (a_getR 12 38 16 48), none, none],
  [some (a_iconst 2 49), some (a_aload 0 50), some (a_getI 12 38 15 53), none, none, some (a_imul 54), some (a_iconst 1 55), some (a_iadd 56), some (a_iload 2 57), some (a_iconst 40 59), none, some (a_isub 60), some (a_iast 61), some (a_aload 0 62), some (a_dup 63), some (a_getI 12 38 15 66)],
  [none, none, some (a_iconst 1 67), some (a_iadd 68), some (a_putI 12 38 15 71), none, none, some (a_aload 0 72), some (a_getI 12 38 15 75), none, none, some (a_iret)]]
def t_151 : ax_T := [[some (a_aload 0 1), some (a_getI 12 38 15 4), none, none, some (a_istore 1 5), some (a_aload 0 6), some (a_iconst 0 7), some (a_putI 12 38 15 10), none, none, some (a_iload 1 11), some (a_iret)]]
def t_152 : ax_T := [[some (a_iconst 0 1), some (a_istore 1 2), some (a_iconst 0 3), some (a_istore 2 4), some (a_iload 2 5), some (a_aload 0 6), some (a_getI 12 38 0 9), none, none, some (a_cge 90 12), none, none, some (a_iconst 1 13), some (a_istore 3 14), some (a_iconst 0 15), some (a_istore 4 17)],
  [none, some (a_iload 4 19), none, some (a_aload 0 20), some (a_getI 12 38 15 23), none, none, some (a_cge 70 26), none, none, some (a_iload 3 27), some (a_zeq 62 30), none, none, some (a_aload 0 31), some (a_iload 2 32)],
  [some (a_aload 0 33), some (a_getR 12 38 16 36), none, none, some (a_iconst 2 37), some (a_iload 4 39), none, some (a_imul 40), some (a_iald 41), some (a_callV 12 38 131 2 44), none, none, some (a_aload 0 45), some (a_getR 12 38 16 48), none, none],
  [some (a_iconst 2 49), some (a_iload 4 51), none, some (a_imul 52), some (a_iconst 1 53), some (a_iadd 54), some (a_iald 55), some (a_cne 62 58), none, none, some (a_iconst 1 59), some (a_goto 63), none, none, some (a_iconst 0 63), some (a_istore 3 64)],
  [some (a_iinc 4 1 67), none, none, some (a_goto 17), none, none, some (a_iload 1 71), some (a_iload 3 72), some (a_zeq 81 75), none, none, some (a_iconst 1 76), some (a_iload 2 77), some (a_ishl 78), some (a_goto 82), none],
  [none, some (a_iconst 0 82), some (a_ior 83), some (a_istore 1 84), some (a_iinc 2 1 87), none, none, some (a_goto 4), none, none, some (a_iload 1 91), some (a_iret)]]
def t_153 : ax_T := [[some (a_iconst 0 1), some (a_istore 3 2), some (a_iconst 0 3), some (a_istore 4 5), none, some (a_iload 4 7), none, some (a_aload 0 8), some (a_getI 12 38 0 11), none, none, some (a_cge 99 14), none, none, some (a_iconst 0 15), some (a_istore 5 17)],
  [none, some (a_iconst 0 18), some (a_istore 6 20), none, some (a_iload 6 22), none, some (a_aload 0 23), some (a_getI 12 38 0 26), none, none, some (a_cge 80 29), none, none, some (a_iload 5 31), none, some (a_iload 1 32)],
  [some (a_iload 4 34), none, some (a_callS 105 2 37), none, none, some (a_zeq 70 40), none, none, some (a_iload 1 41), some (a_iload 6 43), none, some (a_callS 105 2 46), none, none, some (a_zeq 70 49), none],
  [none, some (a_aload 0 50), some (a_iload 4 52), none, some (a_iload 2 53), some (a_callV 12 38 131 2 56), none, none, some (a_aload 0 57), some (a_iload 6 59), none, some (a_iload 2 60), some (a_callV 12 38 131 2 63), none, none, some (a_cne 70 66)],
  [none, none, some (a_iconst 1 67), some (a_goto 71), none, none, some (a_iconst 0 71), some (a_iadd 72), some (a_istore 5 74), none, some (a_iinc 6 1 77), none, none, some (a_goto 20), none, none],
  [some (a_iload 5 82), none, some (a_iload 3 83), some (a_cle 91 86), none, none, some (a_iload 5 88), none, some (a_goto 92), none, none, some (a_iload 3 92), some (a_istore 3 93), some (a_iinc 4 1 96), none, none],
  [some (a_goto 5), none, none, some (a_iload 3 100), some (a_iret)]]
def t_154 : ax_T := [[some (a_iload 1 1), some (a_iconst 0 2), some (a_iconst 1 3), some (a_callS 104 3 6), none, none, some (a_zne 11 9), none, none, some (a_iconst (-1) 10), some (a_iret), some (a_aload 0 12), some (a_callV 12 38 152 0 15), none, none, some (a_istore 2 16)],
  [some (a_iload 2 17), some (a_zne 23 20), none, none, some (a_iconst (-4) 22), none, some (a_iret), some (a_iconst 6 25), none, some (a_istore 3 26), some (a_iconst 7 28), none, some (a_istore 4 30), none, some (a_iload 4 32), none],
  [some (a_iconst 18 34), none, some (a_cgt 66 37), none, none, some (a_aload 0 38), some (a_iload 2 39), some (a_iload 4 41), none, some (a_callV 12 38 153 2 44), none, none, some (a_aload 0 45), some (a_iload 2 46), some (a_iload 3 47), some (a_callV 12 38 153 2 50)],
  [none, none, some (a_cge 58 53), none, none, some (a_iload 4 55), none, some (a_goto 59), none, none, some (a_iload 3 59), some (a_istore 3 60), some (a_iinc 4 1 63), none, none, some (a_goto 30)],
  [none, none, some (a_iload 1 67), some (a_zne 74 70), none, none, some (a_iload 3 71), some (a_goto 80), none, none, some (a_aload 0 75), some (a_iload 2 76), some (a_iload 3 77), some (a_callV 12 38 153 2 80), none, none],
  [some (a_iret)]]
def t_155 : ax_T := [[some (a_iload 1 1), some (a_istore 2 2), some (a_iconst 0 3), some (a_istore 3 4), some (a_iconst 0 5), some (a_istore 4 7), none, some (a_aload 0 8), some (a_getI 12 38 4 11), none, none, some (a_iconst 1 12), some (a_isub 13), some (a_istore 5 15), none, some (a_iload 5 17)],
  [none, some (a_zlt 102 20), none, none, some (a_aload 0 21), some (a_getR 12 38 32 24), none, none, some (a_iload 5 26), none, some (a_iload 2 27), some (a_aload 0 28), some (a_getI 12 38 6 31), none, none, some (a_iconst 1 32)],
  [some (a_iadd 33), some (a_irem 34), some (a_iast 35), some (a_iload 2 36), some (a_aload 0 37), some (a_getI 12 38 6 40), none, none, some (a_iconst 1 41), some (a_iadd 42), some (a_idiv 43), some (a_istore 2 44), some (a_iload 3 45), some (a_aload 0 46), some (a_getR 12 38 32 49), none],
  [none, some (a_iload 5 51), none, some (a_iald 52), some (a_aload 0 53), some (a_getI 12 38 6 56), none, none, some (a_cge 63 59), none, none, some (a_iconst 1 60), some (a_goto 64), none, none, some (a_iconst 0 64)],
  [some (a_iadd 65), some (a_istore 3 66), some (a_iload 4 68), none, some (a_aload 0 69), some (a_getR 12 38 32 72), none, none, some (a_iload 5 74), none, some (a_iald 75), some (a_aload 0 76), some (a_getI 12 38 6 79), none, none, some (a_cge 92 82)],
  [none, none, some (a_aload 0 83), some (a_getR 12 38 5 86), none, none, some (a_iload 5 88), none, some (a_iald 89), some (a_goto 93), none, none, some (a_iconst 0 93), some (a_iadd 94), some (a_istore 4 96), none],
  [some (a_iinc 5 (-1) 99), none, none, some (a_goto 15), none, none, some (a_iconst 1 103), some (a_istore 5 105), none, some (a_iconst 0 106), some (a_istore 6 108), none, some (a_iload 6 110), none, some (a_aload 0 111), some (a_getI 12 38 6 114)],
  [none, none, some (a_cge 208 117), none, none, some (a_iconst 0 118), some (a_istore 7 120), none, some (a_iconst 0 121), some (a_istore 8 123), none, some (a_iload 8 125), none, some (a_aload 0 126), some (a_getI 12 38 4 129), none],
  [none, some (a_cge 166 132), none, none, some (a_iload 7 134), none, some (a_aload 0 135), some (a_getR 12 38 32 138), none, none, some (a_iload 8 140), none, some (a_iald 141), some (a_iload 6 143), none, some (a_cne 156 146)],
  [none, none, some (a_aload 0 147), some (a_getR 12 38 5 150), none, none, some (a_iload 8 152), none, some (a_iald 153), some (a_goto 157), none, none, some (a_iconst 0 157), some (a_iadd 158), some (a_istore 7 160), none],
  [some (a_iinc 8 1 163), none, none, some (a_goto 123), none, none, some (a_iload 5 168), none, some (a_zeq 187 171), none, none, some (a_iload 7 173), none, some (a_aload 0 174), some (a_getR 12 38 7 177), none],
  [none, some (a_iload 6 179), none, some (a_iald 180), some (a_clt 187 183), none, none, some (a_iconst 1 184), some (a_goto 188), none, none, some (a_iconst 0 188), some (a_istore 5 190), none, some (a_iload 4 192), none],
  [some (a_aload 0 193), some (a_getR 12 38 7 196), none, none, some (a_iload 6 198), none, some (a_iald 199), some (a_isub 200), some (a_istore 4 202), none, some (a_iinc 6 1 205), none, none, some (a_goto 108), none, none],
  [some (a_aload 0 209), some (a_iload 3 210), some (a_aload 0 211), some (a_getI 12 38 6 214), none, none, some (a_isub 215), some (a_putI 12 38 33 218), none, none, some (a_aload 0 219), some (a_iload 4 221), none, some (a_putI 12 38 34 224), none, none],
  [some (a_iload 5 226), none, some (a_zret)]]
def t_156 : ax_T := [[some (a_iload 1 1), some (a_iconst (-2) 3), none, some (a_aload 0 4), some (a_getI 12 38 4 7), none, none, some (a_iconst 1 8), some (a_isub 9), some (a_callS 104 3 12), none, none, some (a_zne 17 15), none, none, some (a_iconst (-1) 16)],
  [some (a_iret), some (a_iconst 1 18), some (a_istore 2 19), some (a_iconst 0 20), some (a_istore 3 21), some (a_iload 3 22), some (a_aload 0 23), some (a_getI 12 38 4 26), none, none, some (a_cge 44 29), none, none, some (a_iload 2 30), some (a_aload 0 31), some (a_getI 12 38 6 34)],
  [none, none, some (a_iconst 1 35), some (a_iadd 36), some (a_imul 37), some (a_istore 2 38), some (a_iinc 3 1 41), none, none, some (a_goto 21), none, none, some (a_iconst (-4) 46), none, some (a_istore 3 47), some (a_iconst 0 48)],
  [some (a_istore 4 50), none, some (a_iconst 0 51), some (a_istore 5 53), none, some (a_iconst 0 54), some (a_istore 6 56), none, some (a_iload 6 58), none, some (a_iload 2 59), some (a_cge 161 62), none, none, some (a_aload 0 63), some (a_iload 6 65)],
  [none, some (a_callV 12 38 155 1 68), none, none, some (a_zeq 108 71), none, none, some (a_iload 3 72), some (a_iconst (-4) 74), none, some (a_ceq 104 77), none, none, some (a_aload 0 78), some (a_getI 12 38 33 81), none],
  [none, some (a_iload 4 83), none, some (a_clt 104 86), none, none, some (a_aload 0 87), some (a_getI 12 38 33 90), none, none, some (a_iload 4 92), none, some (a_cne 108 95), none, none, some (a_aload 0 96)],
  [some (a_getI 12 38 34 99), none, none, some (a_iload 5 101), none, some (a_cge 108 104), none, none, some (a_iconst 1 105), some (a_goto 109), none, none, some (a_iconst 0 109), some (a_istore 7 111), none, some (a_iload 7 113)],
  [none, some (a_zeq 121 116), none, none, some (a_iload 6 118), none, some (a_goto 122), none, none, some (a_iload 3 122), some (a_istore 3 123), some (a_iload 7 125), none, some (a_zeq 135 128), none, none],
  [some (a_aload 0 129), some (a_getI 12 38 33 132), none, none, some (a_goto 137), none, none, some (a_iload 4 137), none, some (a_istore 4 139), none, some (a_iload 7 141), none, some (a_zeq 151 144), none, none],
  [some (a_aload 0 145), some (a_getI 12 38 34 148), none, none, some (a_goto 153), none, none, some (a_iload 5 153), none, some (a_istore 5 155), none, some (a_iinc 6 1 158), none, none, some (a_goto 56), none],
  [none, some (a_iload 3 162), some (a_iconst (-4) 164), none, some (a_cne 170 167), none, none, some (a_iconst (-4) 169), none, some (a_iret), some (a_aload 0 171), some (a_iload 3 172), some (a_callV 12 38 155 1 175), none, none, some (a_pop 176)],
  [some (a_iload 1 177), some (a_iconst (-1) 178), some (a_cne 188 181), none, none, some (a_aload 0 182), some (a_getI 12 38 33 185), none, none, some (a_goto 225), none, none, some (a_iload 1 189), some (a_iconst (-2) 191), none, some (a_cne 201 194)],
  [none, none, some (a_aload 0 195), some (a_getI 12 38 34 198), none, none, some (a_goto 225), none, none, some (a_aload 0 202), some (a_getR 12 38 32 205), none, none, some (a_iload 1 206), some (a_iald 207), some (a_aload 0 208)],
  [some (a_getI 12 38 6 211), none, none, some (a_cge 223 214), none, none, some (a_aload 0 215), some (a_getR 12 38 32 218), none, none, some (a_iload 1 219), some (a_iald 220), some (a_goto 225), none, none, some (a_iconst (-4) 225)],
  [none, some (a_iret)]]
def t_157 : ax_T := [[some (a_iload 1 1), some (a_istore 2 2), some (a_iconst 1 3), some (a_istore 3 4), some (a_iconst 2 5), some (a_istore 4 7), none, some (a_iload 4 9), none, some (a_aload 0 10), some (a_getI 12 38 8 13), none, none, some (a_cgt 27 16), none, none],
  [some (a_iload 3 17), some (a_iload 4 19), none, some (a_imul 20), some (a_istore 3 21), some (a_iinc 4 1 24), none, none, some (a_goto 7), none, none, some (a_iconst 0 28), some (a_istore 4 30), none, some (a_iconst 0 31), some (a_istore 5 33)],
  [none, some (a_aload 0 34), some (a_iconst 0 35), some (a_putI 12 38 36 38), none, none, some (a_aload 0 39), some (a_iconst 0 40), some (a_putI 12 38 37 43), none, none, some (a_iconst 0 44), some (a_istore 6 46), none, some (a_iload 6 48), none],
  [some (a_aload 0 49), some (a_getI 12 38 8 52), none, none, some (a_cge 229 55), none, none, some (a_iload 3 56), some (a_aload 0 57), some (a_getI 12 38 8 60), none, none, some (a_iload 6 62), none, some (a_isub 63), some (a_idiv 64)],
  [some (a_istore 3 65), some (a_iload 2 66), some (a_iload 3 67), some (a_idiv 68), some (a_istore 7 70), none, some (a_iload 2 71), some (a_iload 3 72), some (a_irem 73), some (a_istore 2 74), some (a_iconst 0 75), some (a_istore 8 77), none, some (a_iload 4 79), none, some (a_iload 8 81)],
  [none, some (a_callS 105 2 84), none, none, some (a_zne 92 87), none, none, some (a_iload 7 89), none, some (a_zle 118 92), none, none, some (a_iload 7 94), none, some (a_iload 4 96), none],
  [some (a_iload 8 98), none, some (a_callS 105 2 101), none, none, some (a_zeq 108 104), none, none, some (a_iconst 0 105), some (a_goto 109), none, none, some (a_iconst 1 109), some (a_isub 110), some (a_istore 7 112), none],
  [some (a_iinc 8 1 115), none, none, some (a_goto 77), none, none, some (a_iload 4 120), none, some (a_iconst 1 121), some (a_iload 8 123), none, some (a_ishl 124), some (a_ior 125), some (a_istore 4 127), none, some (a_aload 0 128)],
  [some (a_getR 12 38 35 131), none, none, some (a_iload 6 133), none, some (a_iload 8 135), none, some (a_iast 136), some (a_iload 5 138), none, some (a_aload 0 139), some (a_getR 12 38 9 142), none, none, some (a_iconst 2 143), some (a_iload 8 145)],
  [none, some (a_imul 146), some (a_iald 147), some (a_iadd 148), some (a_istore 5 150), none, some (a_aload 0 151), some (a_dup 152), some (a_getI 12 38 36 155), none, none, some (a_iload 5 157), none, some (a_aload 0 158), some (a_getR 12 38 9 161), none],
  [none, some (a_iconst 2 162), some (a_iload 8 164), none, some (a_imul 165), some (a_iconst 1 166), some (a_iadd 167), some (a_iald 168), some (a_cle 175 171), none, none, some (a_iconst 1 172), some (a_goto 176), none, none, some (a_iconst 0 176)],
  [some (a_iadd 177), some (a_putI 12 38 36 180), none, none, some (a_aload 0 181), some (a_dup 182), some (a_getI 12 38 37 185), none, none, some (a_iload 5 187), none, some (a_aload 0 188), some (a_getR 12 38 9 191), none, none, some (a_iconst 2 192)],
  [some (a_iload 8 194), none, some (a_imul 195), some (a_iconst 1 196), some (a_iadd 197), some (a_iald 198), some (a_cle 218 201), none, none, some (a_iload 5 203), none, some (a_aload 0 204), some (a_getR 12 38 9 207), none, none, some (a_iconst 2 208)],
  [some (a_iload 8 210), none, some (a_imul 211), some (a_iconst 1 212), some (a_iadd 213), some (a_iald 214), some (a_isub 215), some (a_goto 219), none, none, some (a_iconst 0 219), some (a_iadd 220), some (a_putI 12 38 37 223), none, none, some (a_iinc 6 1 226)],
  [none, none, some (a_goto 46), none, none, some (a_vret)]]
def t_158 : ax_T := [[some (a_iload 1 1), some (a_iconst (-2) 3), none, some (a_aload 0 4), some (a_getI 12 38 8 7), none, none, some (a_iconst 1 8), some (a_isub 9), some (a_iconst 0 10), some (a_callS 159 2 13), none, none, some (a_callS 104 3 16), none, none],
  [some (a_zne 21 19), none, none, some (a_iconst (-1) 20), some (a_iret), some (a_aload 0 22), some (a_getI 12 38 8 25), none, none, some (a_zne 31 28), none, none, some (a_iconst (-4) 30), none, some (a_iret), some (a_iconst 1 32)],
  [some (a_istore 2 33), some (a_iconst 2 34), some (a_istore 3 35), some (a_iload 3 36), some (a_aload 0 37), some (a_getI 12 38 8 40), none, none, some (a_cgt 53 43), none, none, some (a_iload 2 44), some (a_iload 3 45), some (a_imul 46), some (a_istore 2 47), some (a_iinc 3 1 50)],
  [none, none, some (a_goto 35), none, none, some (a_iconst 0 54), some (a_istore 3 55), some (a_iconst (-1) 56), some (a_istore 4 58), none, some (a_iconst 0 59), some (a_istore 5 61), none, some (a_iload 5 63), none, some (a_iload 2 64)],
  [some (a_cge 134 67), none, none, some (a_aload 0 68), some (a_iload 5 70), none, some (a_callV 12 38 157 1 73), none, none, some (a_iconst 1000 76), none, none, some (a_aload 0 77), some (a_getI 12 38 36 80), none, none],
  [some (a_imul 81), some (a_aload 0 82), some (a_getI 12 38 37 85), none, none, some (a_iadd 86), some (a_istore 6 88), none, some (a_iload 4 90), none, some (a_zlt 100 93), none, none, some (a_iload 6 95), none, some (a_iload 4 97)],
  [none, some (a_cge 105 100), none, none, some (a_iload 5 102), none, some (a_goto 106), none, none, some (a_iload 3 106), some (a_istore 3 107), some (a_iload 4 109), none, some (a_zlt 119 112), none, none],
  [some (a_iload 6 114), none, some (a_iload 4 116), none, some (a_cge 124 119), none, none, some (a_iload 6 121), none, some (a_goto 126), none, none, some (a_iload 4 126), none, some (a_istore 4 128), none],
  [some (a_iinc 5 1 131), none, none, some (a_goto 61), none, none, some (a_aload 0 135), some (a_iload 3 136), some (a_callV 12 38 157 1 139), none, none, some (a_iload 1 140), some (a_iconst (-1) 141), some (a_cne 151 144), none, none],
  [some (a_aload 0 145), some (a_getI 12 38 36 148), none, none, some (a_goto 170), none, none, some (a_iload 1 152), some (a_iconst (-2) 154), none, some (a_cne 164 157), none, none, some (a_aload 0 158), some (a_getI 12 38 37 161), none],
  [none, some (a_goto 170), none, none, some (a_aload 0 165), some (a_getR 12 38 35 168), none, none, some (a_iload 1 169), some (a_iald 170), some (a_iret)]]
def t_159 : ax_T := [[some (a_iload 0 1), some (a_iload 1 2), some (a_cle 9 5), none, none, some (a_iload 0 6), some (a_goto 10), none, none, some (a_iload 1 10), some (a_iret)]]
def t_160 : ax_T := [[some (a_aload 0 1), some (a_iload 1 2), some (a_iload 2 3), some (a_callV 12 38 130 2 6), none, none, some (a_zge 18 9), none, none, some (a_aload 0 10), some (a_iload 1 11), some (a_iload 2 12), some (a_callV 12 38 131 2 15), none, none, some (a_goto 26)],
  [none, none, some (a_aload 0 19), some (a_iload 1 20), some (a_iload 2 21), some (a_callV 12 38 126 2 24), none, none, some (a_iconst 1 25), some (a_iadd 26), some (a_iret)]]
def t_161 : ax_T := [[some (a_aload 0 1), some (a_iload 1 2), some (a_iload 2 3), some (a_callV 12 38 130 2 6), none, none, some (a_zge 20 9), none, none, some (a_aload 0 10), some (a_iload 1 11), some (a_iload 2 12), some (a_callV 12 38 126 2 15), none, none, some (a_iconst 1 16)],
  [some (a_isub 17), some (a_goto 26), none, none, some (a_aload 0 21), some (a_iload 1 22), some (a_iload 2 23), some (a_callV 12 38 131 2 26), none, none, some (a_iret)]]
def t_162 : ax_T := [[some (a_iconst (-4) 2), none, some (a_istore 3 3), some (a_iconst 0 4), some (a_istore 4 6), none, some (a_iload 4 8), none, some (a_aload 0 9), some (a_getI 12 38 0 12), none, none, some (a_cge 59 15), none, none, some (a_iload 1 16)],
  [some (a_iload 4 18), none, some (a_callS 105 2 21), none, none, some (a_zeq 51 24), none, none, some (a_iload 3 25), some (a_iconst (-4) 27), none, some (a_ceq 46 30), none, none, some (a_aload 0 31), some (a_iload 4 33)],
  [none, some (a_iload 2 34), some (a_callV 12 38 161 2 37), none, none, some (a_aload 0 38), some (a_iload 3 39), some (a_iload 2 40), some (a_callV 12 38 161 2 43), none, none, some (a_cge 51 46), none, none, some (a_iload 4 48), none],
  [some (a_goto 52), none, none, some (a_iload 3 52), some (a_istore 3 53), some (a_iinc 4 1 56), none, none, some (a_goto 6), none, none, some (a_iload 3 60), some (a_iret)]]
def t_163 : ax_T := [[some (a_iload 1 1), some (a_callS 108 1 4), none, none, some (a_zeq 16 7), none, none, some (a_iload 2 8), some (a_iconst 0 9), some (a_iconst 1 10), some (a_callS 104 3 13), none, none, some (a_zne 18 16), none, none],
  [some (a_iconst (-1) 17), some (a_iret), some (a_iconst 0 19), some (a_istore 3 20), some (a_iconst 0 21), some (a_istore 4 23), none, some (a_iload 4 25), none, some (a_aload 0 26), some (a_getI 12 38 0 29), none, none, some (a_cge 59 32), none, none],
  [some (a_iload 3 33), some (a_aload 0 34), some (a_iload 4 36), none, some (a_iload 1 37), some (a_callV 12 38 129 2 40), none, none, some (a_zle 50 43), none, none, some (a_iconst 1 44), some (a_iload 4 46), none, some (a_ishl 47), some (a_goto 51)],
  [none, none, some (a_iconst 0 51), some (a_ior 52), some (a_istore 3 53), some (a_iinc 4 1 56), none, none, some (a_goto 23), none, none, some (a_iload 3 60), some (a_zne 66 63), none, none, some (a_iconst (-4) 65)],
  [none, some (a_iret), some (a_aload 0 67), some (a_aload 0 68), some (a_iload 3 69), some (a_iload 1 70), some (a_callV 12 38 162 2 73), none, none, some (a_iload 1 74), some (a_callV 12 38 161 2 77), none, none, some (a_istore 4 79), none, some (a_iconst 0 80)],
  [some (a_istore 5 82), none, some (a_iload 3 83), some (a_zeq 163 86), none, none, some (a_aload 0 87), some (a_aload 0 88), some (a_iload 3 89), some (a_iload 1 90), some (a_callV 12 38 162 2 93), none, none, some (a_iload 1 94), some (a_callV 12 38 161 2 97), none],
  [none, some (a_istore 6 99), none, some (a_iconst 0 100), some (a_istore 7 102), none, some (a_iconst 0 103), some (a_istore 8 105), none, some (a_iload 8 107), none, some (a_aload 0 108), some (a_getI 12 38 0 111), none, none, some (a_cge 154 114)],
  [none, none, some (a_iload 7 116), none, some (a_iload 3 117), some (a_iload 8 119), none, some (a_callS 105 2 122), none, none, some (a_zeq 144 125), none, none, some (a_aload 0 126), some (a_iload 8 128), none],
  [some (a_iload 1 129), some (a_callV 12 38 160 2 132), none, none, some (a_iload 6 134), none, some (a_cle 144 137), none, none, some (a_iconst 1 138), some (a_iload 8 140), none, some (a_ishl 141), some (a_goto 145), none, none],
  [some (a_iconst 0 145), some (a_ior 146), some (a_istore 7 148), none, some (a_iinc 8 1 151), none, none, some (a_goto 105), none, none, some (a_iload 7 156), none, some (a_istore 3 157), some (a_iinc 5 1 160), none, none],
  [some (a_goto 82), none, none, some (a_iload 2 164), some (a_zne 172 167), none, none, some (a_iload 5 169), none, some (a_goto 178), none, none, some (a_iload 4 174), none, some (a_iconst 200 177), none],
  [none, some (a_iadd 178), some (a_iret)]]
def t_164 : ax_T := [[some (a_iload 1 1), some (a_iconst 1 2), some (a_iconst 99 4), none, some (a_callS 104 3 7), none, none, some (a_zeq 30 10), none, none, some (a_iload 2 11), some (a_iconst 1 12), some (a_iconst 9 14), none, some (a_callS 104 3 17), none],
  [none, some (a_zeq 30 20), none, none, some (a_iload 1 21), some (a_iconst 1 22), some (a_isub 23), some (a_iload 2 24), some (a_iconst 1 25), some (a_iadd 26), some (a_irem 27), some (a_goto 31), none, none, some (a_iconst (-1) 31), some (a_iret)]]
def t_165 : ax_T := [[some (a_iload 1 1), some (a_callS 108 1 4), none, none, some (a_zne 9 7), none, none, some (a_iconst (-1) 8), some (a_iret), some (a_iconst 0 10), some (a_istore 2 11), some (a_iconst 0 12), some (a_istore 3 13), some (a_iload 3 14), some (a_iconst 60 16), none],
  [some (a_cgt 42 19), none, none, some (a_iload 2 20), some (a_aload 0 21), some (a_iload 3 22), some (a_iload 1 23), some (a_callV 12 38 136 2 26), none, none, some (a_zne 33 29), none, none, some (a_iconst 1 30), some (a_goto 34), none],
  [none, some (a_iconst 0 34), some (a_iadd 35), some (a_istore 2 36), some (a_iinc 3 1 39), none, none, some (a_goto 13), none, none, some (a_iload 2 43), some (a_iret)]]
def t_166 : ax_T := [[some (a_aload 0 1), some (a_iload 1 2), some (a_callV 12 38 107 1 5), none, none, some (a_zeq 48 8), none, none, some (a_iload 2 9), some (a_callS 108 1 12), none, none, some (a_zeq 48 15), none, none, some (a_iload 3 16)],
  [some (a_callS 108 1 19), none, none, some (a_zeq 48 22), none, none, some (a_iload 3 23), some (a_iload 2 24), some (a_clt 48 27), none, none, some (a_iload 4 29), none, some (a_iconst 0 30), some (a_iconst 10 32), none],
  [some (a_callS 104 3 35), none, none, some (a_zeq 48 38), none, none, some (a_iload 5 40), none, some (a_iconst 0 41), some (a_iconst 1 42), some (a_callS 104 3 45), none, none, some (a_zne 52 48), none, none],
  [some (a_lconst (-1) 51), none, none, some (a_lret), some (a_lconst 1 53), some (a_lstore 6 55), none, some (a_lconst 1 56), some (a_lstore 8 58), none, some (a_iload 2 59), some (a_istore 10 61), none, some (a_iload 10 63), none, some (a_iload 3 64)],
  [some (a_cgt 99 67), none, none, some (a_aload 0 68), some (a_iload 1 69), some (a_iload 10 71), none, some (a_callV 12 38 138 2 74), none, none, some (a_zle 93 77), none, none, some (a_lload 6 79), none, some (a_iload 4 81)],
  [none, some (a_i2l 82), some (a_lmul 83), some (a_lstore 6 85), none, some (a_lload 8 87), none, some (a_lconst (10) 90), none, none, some (a_lmul 91), some (a_lstore 8 93), none, some (a_iinc 10 1 96), none, none],
  [some (a_goto 61), none, none, some (a_lload 6 101), none, some (a_lstore 10 103), none, some (a_lload 8 105), none, some (a_lstore 12 107), none, some (a_lload 12 109), none, some (a_lconst 0 110), some (a_lcmp 111), some (a_zle 132 114)],
  [none, none, some (a_lload 10 116), none, some (a_lload 12 118), none, some (a_lrem 119), some (a_lstore 14 121), none, some (a_lload 12 123), none, some (a_lstore 10 125), none, some (a_lload 14 127), none, some (a_lstore 12 129)],
  [none, some (a_goto 107), none, none, some (a_iload 5 134), none, some (a_zne 142 137), none, none, some (a_lload 6 139), none, some (a_goto 144), none, none, some (a_lload 8 144), none],
  [some (a_lload 10 146), none, some (a_ldiv 147), some (a_lret)]]
def t_167 : ax_T := [[some (a_lconst (7919) 3), none, none, some (a_iload 0 4), some (a_i2l 5), some (a_lmul 6), some (a_lconst (6151) 9), none, none, some (a_iload 1 10), some (a_i2l 11), some (a_lmul 12), some (a_ladd 13), some (a_lconst (3571) 16), none, none],
  [some (a_iload 2 17), some (a_i2l 18), some (a_lmul 19), some (a_ladd 20), some (a_lconst 1 21), some (a_ladd 22), some (a_lstore 3 23), some (a_lload 3 24), some (a_lload 3 25), some (a_lmul 26), some (a_lconst (65521) 29), none, none, some (a_lrem 30), some (a_lconst (61) 33), none],
  [none, some (a_lrem 34), some (a_l2i 35), some (a_iret)]]
def t_168 : ax_T := [[some (a_iload 1 1), some (a_iconst 0 2), some (a_iconst 9999 5), none, none, some (a_callS 104 3 8), none, none, some (a_zeq 20 11), none, none, some (a_iload 2 12), some (a_iconst 0 13), some (a_iconst 1 14), some (a_callS 104 3 17), none],
  [none, some (a_zne 22 20), none, none, some (a_iconst (-1) 21), some (a_iret), some (a_iconst 0 23), some (a_istore 3 24), some (a_iconst (-4) 26), none, some (a_istore 4 28), none, some (a_iconst 6 30), none, some (a_istore 5 32), none],
  [some (a_iload 5 34), none, some (a_iconst 18 36), none, some (a_cgt 172 39), none, none, some (a_iconst 0 40), some (a_istore 6 42), none, some (a_iload 6 44), none, some (a_aload 0 45), some (a_getI 12 38 0 48), none, none],
  [some (a_aload 0 49), some (a_getI 12 38 0 52), none, none, some (a_imul 53), some (a_cge 166 56), none, none, some (a_iload 6 58), none, some (a_aload 0 59), some (a_getI 12 38 0 62), none, none, some (a_idiv 63), some (a_istore 7 65)],
  [none, some (a_iload 6 67), none, some (a_aload 0 68), some (a_getI 12 38 0 71), none, none, some (a_irem 72), some (a_istore 8 74), none, some (a_iload 7 76), none, some (a_iload 8 78), none, some (a_ceq 123 81), none],
  [none, some (a_iload 1 82), some (a_iload 5 84), none, some (a_iload 7 86), none, some (a_callS 167 3 89), none, none, some (a_aload 0 90), some (a_iload 7 92), none, some (a_iload 5 94), none, some (a_callV 12 38 130 2 97), none],
  [none, some (a_aload 0 98), some (a_iload 7 100), none, some (a_iload 5 102), none, some (a_callV 12 38 129 2 105), none, none, some (a_iload 1 106), some (a_iload 5 108), none, some (a_iload 8 110), none, some (a_callS 167 3 113), none],
  [none, some (a_callS 132 4 116), none, none, some (a_zeq 123 119), none, none, some (a_iconst 1 120), some (a_goto 124), none, none, some (a_iconst 0 124), some (a_istore 9 126), none, some (a_iload 3 127), some (a_iload 9 129)],
  [none, some (a_zeq 136 132), none, none, some (a_iconst 1 133), some (a_goto 137), none, none, some (a_iconst 0 137), some (a_iadd 138), some (a_istore 3 139), some (a_iload 9 141), none, some (a_zeq 156 144), none, none],
  [some (a_iload 4 146), none, some (a_iconst (-4) 148), none, some (a_cne 156 151), none, none, some (a_iload 5 153), none, some (a_goto 158), none, none, some (a_iload 4 158), none, some (a_istore 4 160), none],
  [some (a_iinc 6 1 163), none, none, some (a_goto 42), none, none, some (a_iinc 5 1 169), none, none, some (a_goto 32), none, none, some (a_iload 2 173), some (a_zne 180 176), none, none],
  [some (a_iload 3 177), some (a_goto 182), none, none, some (a_iload 4 182), none, some (a_iret)]]
def t_169 : ax_T := [[some (a_aload 0 1), some (a_getI 12 38 13 4), none, none, some (a_iconst 2 5), some (a_cne 11 8), none, none, some (a_iconst (-3) 10), none, some (a_iret), some (a_iconst 0 12), some (a_istore 1 13), some (a_iload 1 14), some (a_iconst 34 16), none],
  [some (a_cge 45 19), none, none, some (a_aload 0 20), some (a_getR 12 38 14 23), none, none, some (a_iconst 34 25), none, some (a_aload 0 26), some (a_getI 12 38 13 29), none, none, some (a_imul 30), some (a_iload 1 31), some (a_iadd 32)],
  [some (a_aload 0 33), some (a_getR 12 38 10 36), none, none, some (a_iload 1 37), some (a_iald 38), some (a_iast 39), some (a_iinc 1 1 42), none, none, some (a_goto 13), none, none, some (a_aload 0 46), some (a_dup 47), some (a_getI 12 38 13 50)],
  [none, none, some (a_iconst 1 51), some (a_iadd 52), some (a_putI 12 38 13 55), none, none, some (a_aload 0 56), some (a_getI 12 38 13 59), none, none, some (a_iret)]]
def t_170 : ax_T := [[some (a_aload 0 1), some (a_getI 12 38 13 4), none, none, some (a_zne 10 7), none, none, some (a_iconst (-2) 9), none, some (a_iret), some (a_aload 0 11), some (a_dup 12), some (a_getI 12 38 13 15), none, none, some (a_iconst 1 16)],
  [some (a_isub 17), some (a_putI 12 38 13 20), none, none, some (a_iconst 0 21), some (a_istore 1 22), some (a_iload 1 23), some (a_iconst 34 25), none, some (a_cge 54 28), none, none, some (a_aload 0 29), some (a_getR 12 38 10 32), none, none],
  [some (a_iload 1 33), some (a_aload 0 34), some (a_getR 12 38 14 37), none, none, some (a_iconst 34 39), none, some (a_aload 0 40), some (a_getI 12 38 13 43), none, none, some (a_imul 44), some (a_iload 1 45), some (a_iadd 46), some (a_iald 47), some (a_iast 48)],
  [some (a_iinc 1 1 51), none, none, some (a_goto 22), none, none, some (a_aload 0 55), some (a_iconst 0 56), some (a_putI 12 38 11 59), none, none, some (a_aload 0 60), some (a_getI 12 38 13 63), none, none, some (a_iret)]]
def t_171 : ax_T := [[some (a_iload 1 1), some (a_tsw 0 9 [56, 61, 69, 74, 79, 84, 89, 94, 99, 104] 109), none, none, none, none, none, none, none, none, none, none, none, none, none, none],
  [none, none, none, none, none, none, none, none, none, none, none, none, none, none, none, none],
  [none, none, none, none, none, none, none, none, none, none, none, none, none, none, none, none],
  [none, none, none, none, none, none, none, none, some (a_aload 0 57), some (a_getI 12 38 0 60), none, none, some (a_iret), some (a_aload 0 62), some (a_getR 12 38 10 65), none],
  [none, some (a_iconst 6 67), none, some (a_iald 68), some (a_iret), some (a_aload 0 70), some (a_getI 12 38 2 73), none, none, some (a_iret), some (a_aload 0 75), some (a_getI 12 38 4 78), none, none, some (a_iret), some (a_aload 0 80)],
  [some (a_getI 12 38 6 83), none, none, some (a_iret), some (a_aload 0 85), some (a_getI 12 38 8 88), none, none, some (a_iret), some (a_aload 0 90), some (a_getI 12 38 15 93), none, none, some (a_iret), some (a_aload 0 95), some (a_getI 12 38 11 98)],
  [none, none, some (a_iret), some (a_aload 0 100), some (a_getI 12 38 13 103), none, none, some (a_iret), some (a_aload 0 105), some (a_getI 12 38 18 108), none, none, some (a_iret), some (a_iconst (-1) 110), some (a_iret)]]
def t_172 : ax_T := [[some (a_iload 0 1), some (a_iconst (-1) 2), some (a_ixor 3), some (a_iload 0 4), some (a_iconst 1 5), some (a_isub 6), some (a_iand 7), some (a_istore 0 8), some (a_iload 0 9), some (a_zgt 17 12), none, none, some (a_iload 0 13), some (a_iconst 32 15), none, some (a_iand 16)],
  [some (a_iret), some (a_iconst 1 18), some (a_istore 1 19), some (a_iload 0 20), some (a_iconst (65536) 23), none, none, some (a_cle 34 26), none, none, some (a_iinc 1 16 29), none, none, some (a_iload 0 30), some (a_iconst 16 32), none],
  [some (a_iushr 33), some (a_istore 0 34), some (a_iload 0 35), some (a_iconst 256 38), none, none, some (a_cle 49 41), none, none, some (a_iinc 1 8 44), none, none, some (a_iload 0 45), some (a_iconst 8 47), none, some (a_iushr 48)],
  [some (a_istore 0 49), some (a_iload 0 50), some (a_iconst 16 52), none, some (a_cle 62 55), none, none, some (a_iinc 1 4 58), none, none, some (a_iload 0 59), some (a_iconst 4 60), some (a_iushr 61), some (a_istore 0 62), some (a_iload 0 63), some (a_iconst 4 64)],
  [some (a_cle 74 67), none, none, some (a_iinc 1 2 70), none, none, some (a_iload 0 71), some (a_iconst 2 72), some (a_iushr 73), some (a_istore 0 74), some (a_iload 1 75), some (a_iload 0 76), some (a_iconst 1 77), some (a_iushr 78), some (a_iadd 79), some (a_iret)]]
def t_173 : ax_T := [[some (a_iload 0 1), some (a_iload 0 2), some (a_iconst 1 3), some (a_iushr 4), some (a_iconst (1431655765) 7), none, none, some (a_iand 8), some (a_isub 9), some (a_istore 0 10), some (a_iload 0 11), some (a_iconst (858993459) 14), none, none, some (a_iand 15), some (a_iload 0 16)],
  [some (a_iconst 2 17), some (a_iushr 18), some (a_iconst (858993459) 21), none, none, some (a_iand 22), some (a_iadd 23), some (a_istore 0 24), some (a_iload 0 25), some (a_iload 0 26), some (a_iconst 4 27), some (a_iushr 28), some (a_iadd 29), some (a_iconst (252645135) 32), none, none],
  [some (a_iand 33), some (a_istore 0 34), some (a_iload 0 35), some (a_iload 0 36), some (a_iconst 8 38), none, some (a_iushr 39), some (a_iadd 40), some (a_istore 0 41), some (a_iload 0 42), some (a_iload 0 43), some (a_iconst 16 45), none, some (a_iushr 46), some (a_iadd 47), some (a_istore 0 48)],
  [some (a_iload 0 49), some (a_iconst 63 51), none, some (a_iand 52), some (a_iret)]]
def t_174 : ax_T := [[some (a_iload 0 1), some (a_zge 9 4), none, none, some (a_iload 0 5), some (a_ineg 6), some (a_goto 10), none, none, some (a_iload 0 10), some (a_iret)]]
def t_175 : ax_T := [[some (a_iload 0 1), some (a_iload 1 2), some (a_clt 9 5), none, none, some (a_iload 0 6), some (a_goto 10), none, none, some (a_iload 1 10), some (a_iret)]]
def t_176 : ax_T := [[some (a_iload 0 1), some (a_iload 1 2), some (a_cgt 9 5), none, none, some (a_iload 0 6), some (a_goto 10), none, none, some (a_iload 1 10), some (a_iret)]]
def t_law : ax_T := [[some (a_new 11 9 3), none, none, some (a_dup 4), some (a_callV 11 9 64 0 7), none, none, some (a_astore 1 8), some (a_new 12 38 11), none, none, some (a_dup 12), some (a_callV 12 38 102 0 15), none, none, some (a_astore 2 16)],
  [some (a_iconst 0 17), some (a_istore 3 18), some (a_iload 3 19), some (a_aload 0 20), some (a_slen 21), some (a_iconst 6 23), none, some (a_isub 24), some (a_cgt 975 27), none, none, some (a_aload 0 28), some (a_iload 3 29), some (a_sald 30), some (a_iconst 31 32), none],
  [some (a_iand 33), some (a_tsw 0 29 [168, 191, 204, 217, 230, 263, 296, 339, 372, 405, 438, 471, 514, 527, 550, 563, 606, 639, 652, 665, 688, 711, 734, 767, 800, 823, 887, 920, 933, 946] 969), none, none, none, none, none, none, none, none, none, none, none, none, none, none],
  [none, none, none, none, none, none, none, none, none, none, none, none, none, none, none, none],
  [none, none, none, none, none, none, none, none, none, none, none, none, none, none, none, none],
  [none, none, none, none, none, none, none, none, none, none, none, none, none, none, none, none],
  [none, none, none, none, none, none, none, none, none, none, none, none, none, none, none, none],
  [none, none, none, none, none, none, none, none, none, none, none, none, none, none, none, none],
  [none, none, none, none, none, none, none, none, none, none, none, none, none, none, none, none],
  [none, none, none, none, none, none, none, none, none, none, none, none, none, none, none, none],
  [none, none, none, none, none, none, none, none, some (a_aload 1 169), some (a_aload 0 170), some (a_iload 3 171), some (a_iconst 1 172), some (a_iadd 173), some (a_sald 174), some (a_callV 11 9 65 1 177), none],
  [none, some (a_aload 2 178), some (a_aload 0 179), some (a_iload 3 180), some (a_iconst 1 181), some (a_iadd 182), some (a_sald 183), some (a_callV 12 38 109 1 186), none, none, some (a_ceq 969 189), none, none, some (a_iconst 0 190), some (a_zret), some (a_aload 1 192)],
  [some (a_callV 11 9 66 0 195), none, none, some (a_aload 2 196), some (a_callV 12 38 110 0 199), none, none, some (a_ceq 969 202), none, none, some (a_iconst 0 203), some (a_zret), some (a_aload 1 205), some (a_callV 11 9 67 0 208), none, none],
  [some (a_aload 2 209), some (a_callV 12 38 124 0 212), none, none, some (a_ceq 969 215), none, none, some (a_iconst 0 216), some (a_zret), some (a_aload 1 218), some (a_callV 11 9 68 0 221), none, none, some (a_aload 2 222), some (a_callV 12 38 125 0 225), none],
  [none, some (a_ceq 969 228), none, none, some (a_iconst 0 229), some (a_zret), some (a_aload 1 231), some (a_aload 0 232), some (a_iload 3 233), some (a_iconst 1 234), some (a_iadd 235), some (a_sald 236), some (a_aload 0 237), some (a_iload 3 238), some (a_iconst 2 239), some (a_iadd 240)],
  [some (a_sald 241), some (a_callV 11 9 69 2 244), none, none, some (a_aload 2 245), some (a_aload 0 246), some (a_iload 3 247), some (a_iconst 1 248), some (a_iadd 249), some (a_sald 250), some (a_aload 0 251), some (a_iload 3 252), some (a_iconst 2 253), some (a_iadd 254), some (a_sald 255), some (a_callV 12 38 133 2 258)],
  [none, none, some (a_ceq 969 261), none, none, some (a_iconst 0 262), some (a_zret), some (a_aload 1 264), some (a_aload 0 265), some (a_iload 3 266), some (a_iconst 1 267), some (a_iadd 268), some (a_sald 269), some (a_aload 0 270), some (a_iload 3 271), some (a_iconst 2 272)],
  [some (a_iadd 273), some (a_sald 274), some (a_callV 11 9 70 2 277), none, none, some (a_aload 2 278), some (a_aload 0 279), some (a_iload 3 280), some (a_iconst 1 281), some (a_iadd 282), some (a_sald 283), some (a_aload 0 284), some (a_iload 3 285), some (a_iconst 2 286), some (a_iadd 287), some (a_sald 288)],
  [some (a_callV 12 38 134 2 291), none, none, some (a_ceq 969 294), none, none, some (a_iconst 0 295), some (a_zret), some (a_aload 1 297), some (a_aload 0 298), some (a_iload 3 299), some (a_iconst 1 300), some (a_iadd 301), some (a_sald 302), some (a_aload 0 303), some (a_iload 3 304)],
  [some (a_iconst 2 305), some (a_iadd 306), some (a_sald 307), some (a_aload 0 308), some (a_iload 3 309), some (a_iconst 3 310), some (a_iadd 311), some (a_sald 312), some (a_callV 11 9 71 3 315), none, none, some (a_aload 2 316), some (a_aload 0 317), some (a_iload 3 318), some (a_iconst 1 319), some (a_iadd 320)],
  [some (a_sald 321), some (a_aload 0 322), some (a_iload 3 323), some (a_iconst 2 324), some (a_iadd 325), some (a_sald 326), some (a_aload 0 327), some (a_iload 3 328), some (a_iconst 3 329), some (a_iadd 330), some (a_sald 331), some (a_callV 12 38 135 3 334), none, none, some (a_ceq 969 337), none],
  [none, some (a_iconst 0 338), some (a_zret), some (a_aload 1 340), some (a_aload 0 341), some (a_iload 3 342), some (a_iconst 1 343), some (a_iadd 344), some (a_sald 345), some (a_aload 0 346), some (a_iload 3 347), some (a_iconst 2 348), some (a_iadd 349), some (a_sald 350), some (a_callV 11 9 72 2 353), none],
  [none, some (a_aload 2 354), some (a_aload 0 355), some (a_iload 3 356), some (a_iconst 1 357), some (a_iadd 358), some (a_sald 359), some (a_aload 0 360), some (a_iload 3 361), some (a_iconst 2 362), some (a_iadd 363), some (a_sald 364), some (a_callV 12 38 136 2 367), none, none, some (a_ceq 969 370)],
  [none, none, some (a_iconst 0 371), some (a_zret), some (a_aload 1 373), some (a_aload 0 374), some (a_iload 3 375), some (a_iconst 1 376), some (a_iadd 377), some (a_sald 378), some (a_aload 0 379), some (a_iload 3 380), some (a_iconst 2 381), some (a_iadd 382), some (a_sald 383), some (a_callV 11 9 73 2 386)],
  [none, none, some (a_aload 2 387), some (a_aload 0 388), some (a_iload 3 389), some (a_iconst 1 390), some (a_iadd 391), some (a_sald 392), some (a_aload 0 393), some (a_iload 3 394), some (a_iconst 2 395), some (a_iadd 396), some (a_sald 397), some (a_callV 12 38 139 2 400), none, none],
  [some (a_ceq 969 403), none, none, some (a_iconst 0 404), some (a_zret), some (a_aload 1 406), some (a_aload 0 407), some (a_iload 3 408), some (a_iconst 1 409), some (a_iadd 410), some (a_sald 411), some (a_aload 0 412), some (a_iload 3 413), some (a_iconst 2 414), some (a_iadd 415), some (a_sald 416)],
  [some (a_callV 11 9 74 2 419), none, none, some (a_aload 2 420), some (a_aload 0 421), some (a_iload 3 422), some (a_iconst 1 423), some (a_iadd 424), some (a_sald 425), some (a_aload 0 426), some (a_iload 3 427), some (a_iconst 2 428), some (a_iadd 429), some (a_sald 430), some (a_callV 12 38 140 2 433), none],
  [none, some (a_ceq 969 436), none, none, some (a_iconst 0 437), some (a_zret), some (a_aload 1 439), some (a_aload 0 440), some (a_iload 3 441), some (a_iconst 1 442), some (a_iadd 443), some (a_sald 444), some (a_aload 0 445), some (a_iload 3 446), some (a_iconst 2 447), some (a_iadd 448)],
  [some (a_sald 449), some (a_callV 11 9 75 2 452), none, none, some (a_aload 2 453), some (a_aload 0 454), some (a_iload 3 455), some (a_iconst 1 456), some (a_iadd 457), some (a_sald 458), some (a_aload 0 459), some (a_iload 3 460), some (a_iconst 2 461), some (a_iadd 462), some (a_sald 463), some (a_callV 12 38 142 2 466)],
  [none, none, some (a_ceq 969 469), none, none, some (a_iconst 0 470), some (a_zret), some (a_aload 1 472), some (a_aload 0 473), some (a_iload 3 474), some (a_iconst 1 475), some (a_iadd 476), some (a_sald 477), some (a_aload 0 478), some (a_iload 3 479), some (a_iconst 2 480)],
  [some (a_iadd 481), some (a_sald 482), some (a_aload 0 483), some (a_iload 3 484), some (a_iconst 3 485), some (a_iadd 486), some (a_sald 487), some (a_callV 11 9 76 3 490), none, none, some (a_aload 2 491), some (a_aload 0 492), some (a_iload 3 493), some (a_iconst 1 494), some (a_iadd 495), some (a_sald 496)],
  [some (a_aload 0 497), some (a_iload 3 498), some (a_iconst 2 499), some (a_iadd 500), some (a_sald 501), some (a_aload 0 502), some (a_iload 3 503), some (a_iconst 3 504), some (a_iadd 505), some (a_sald 506), some (a_callV 12 38 143 3 509), none, none, some (a_ceq 969 512), none, none],
  [some (a_iconst 0 513), some (a_zret), some (a_aload 1 515), some (a_callV 11 9 77 0 518), none, none, some (a_aload 2 519), some (a_callV 12 38 144 0 522), none, none, some (a_ceq 969 525), none, none, some (a_iconst 0 526), some (a_zret), some (a_aload 1 528)],
  [some (a_aload 0 529), some (a_iload 3 530), some (a_iconst 1 531), some (a_iadd 532), some (a_sald 533), some (a_callV 11 9 78 1 536), none, none, some (a_aload 2 537), some (a_aload 0 538), some (a_iload 3 539), some (a_iconst 1 540), some (a_iadd 541), some (a_sald 542), some (a_callV 12 38 145 1 545), none],
  [none, some (a_ceq 969 548), none, none, some (a_iconst 0 549), some (a_zret), some (a_aload 1 551), some (a_callV 11 9 79 0 554), none, none, some (a_aload 2 555), some (a_callV 12 38 147 0 558), none, none, some (a_ceq 969 561), none],
  [none, some (a_iconst 0 562), some (a_zret), some (a_aload 1 564), some (a_aload 0 565), some (a_iload 3 566), some (a_iconst 1 567), some (a_iadd 568), some (a_sald 569), some (a_aload 0 570), some (a_iload 3 571), some (a_iconst 2 572), some (a_iadd 573), some (a_sald 574), some (a_aload 0 575), some (a_iload 3 576)],
  [some (a_iconst 3 577), some (a_iadd 578), some (a_sald 579), some (a_callV 11 9 80 3 582), none, none, some (a_aload 2 583), some (a_aload 0 584), some (a_iload 3 585), some (a_iconst 1 586), some (a_iadd 587), some (a_sald 588), some (a_aload 0 589), some (a_iload 3 590), some (a_iconst 2 591), some (a_iadd 592)],
  [some (a_sald 593), some (a_aload 0 594), some (a_iload 3 595), some (a_iconst 3 596), some (a_iadd 597), some (a_sald 598), some (a_callV 12 38 149 3 601), none, none, some (a_ceq 969 604), none, none, some (a_iconst 0 605), some (a_zret), some (a_aload 1 607), some (a_aload 0 608)],
  [some (a_iload 3 609), some (a_iconst 1 610), some (a_iadd 611), some (a_sald 612), some (a_aload 0 613), some (a_iload 3 614), some (a_iconst 2 615), some (a_iadd 616), some (a_sald 617), some (a_callV 11 9 81 2 620), none, none, some (a_aload 2 621), some (a_aload 0 622), some (a_iload 3 623), some (a_iconst 1 624)],
  [some (a_iadd 625), some (a_sald 626), some (a_aload 0 627), some (a_iload 3 628), some (a_iconst 2 629), some (a_iadd 630), some (a_sald 631), some (a_callV 12 38 150 2 634), none, none, some (a_ceq 969 637), none, none, some (a_iconst 0 638), some (a_zret), some (a_aload 1 640)],
  [some (a_callV 11 9 82 0 643), none, none, some (a_aload 2 644), some (a_callV 12 38 151 0 647), none, none, some (a_ceq 969 650), none, none, some (a_iconst 0 651), some (a_zret), some (a_aload 1 653), some (a_callV 11 9 83 0 656), none, none],
  [some (a_aload 2 657), some (a_callV 12 38 152 0 660), none, none, some (a_ceq 969 663), none, none, some (a_iconst 0 664), some (a_zret), some (a_aload 1 666), some (a_aload 0 667), some (a_iload 3 668), some (a_iconst 1 669), some (a_iadd 670), some (a_sald 671), some (a_callV 11 9 84 1 674)],
  [none, none, some (a_aload 2 675), some (a_aload 0 676), some (a_iload 3 677), some (a_iconst 1 678), some (a_iadd 679), some (a_sald 680), some (a_callV 12 38 154 1 683), none, none, some (a_ceq 969 686), none, none, some (a_iconst 0 687), some (a_zret)],
  [some (a_aload 1 689), some (a_aload 0 690), some (a_iload 3 691), some (a_iconst 1 692), some (a_iadd 693), some (a_sald 694), some (a_callV 11 9 85 1 697), none, none, some (a_aload 2 698), some (a_aload 0 699), some (a_iload 3 700), some (a_iconst 1 701), some (a_iadd 702), some (a_sald 703), some (a_callV 12 38 156 1 706)],
  [none, none, some (a_ceq 969 709), none, none, some (a_iconst 0 710), some (a_zret), some (a_aload 1 712), some (a_aload 0 713), some (a_iload 3 714), some (a_iconst 1 715), some (a_iadd 716), some (a_sald 717), some (a_callV 11 9 86 1 720), none, none],
  [some (a_aload 2 721), some (a_aload 0 722), some (a_iload 3 723), some (a_iconst 1 724), some (a_iadd 725), some (a_sald 726), some (a_callV 12 38 158 1 729), none, none, some (a_ceq 969 732), none, none, some (a_iconst 0 733), some (a_zret), some (a_aload 1 735), some (a_aload 0 736)],
  [some (a_iload 3 737), some (a_iconst 1 738), some (a_iadd 739), some (a_sald 740), some (a_aload 0 741), some (a_iload 3 742), some (a_iconst 2 743), some (a_iadd 744), some (a_sald 745), some (a_callV 11 9 87 2 748), none, none, some (a_aload 2 749), some (a_aload 0 750), some (a_iload 3 751), some (a_iconst 1 752)],
  [some (a_iadd 753), some (a_sald 754), some (a_aload 0 755), some (a_iload 3 756), some (a_iconst 2 757), some (a_iadd 758), some (a_sald 759), some (a_callV 12 38 163 2 762), none, none, some (a_ceq 969 765), none, none, some (a_iconst 0 766), some (a_zret), some (a_aload 1 768)],
  [some (a_aload 0 769), some (a_iload 3 770), some (a_iconst 1 771), some (a_iadd 772), some (a_sald 773), some (a_aload 0 774), some (a_iload 3 775), some (a_iconst 2 776), some (a_iadd 777), some (a_sald 778), some (a_callV 11 9 88 2 781), none, none, some (a_aload 2 782), some (a_aload 0 783), some (a_iload 3 784)],
  [some (a_iconst 1 785), some (a_iadd 786), some (a_sald 787), some (a_aload 0 788), some (a_iload 3 789), some (a_iconst 2 790), some (a_iadd 791), some (a_sald 792), some (a_callV 12 38 164 2 795), none, none, some (a_ceq 969 798), none, none, some (a_iconst 0 799), some (a_zret)],
  [some (a_aload 1 801), some (a_aload 0 802), some (a_iload 3 803), some (a_iconst 1 804), some (a_iadd 805), some (a_sald 806), some (a_callV 11 9 89 1 809), none, none, some (a_aload 2 810), some (a_aload 0 811), some (a_iload 3 812), some (a_iconst 1 813), some (a_iadd 814), some (a_sald 815), some (a_callV 12 38 165 1 818)],
  [none, none, some (a_ceq 969 821), none, none, some (a_iconst 0 822), some (a_zret), some (a_aload 1 824), some (a_aload 0 825), some (a_iload 3 826), some (a_iconst 1 827), some (a_iadd 828), some (a_sald 829), some (a_aload 0 830), some (a_iload 3 831), some (a_iconst 2 832)],
  [some (a_iadd 833), some (a_sald 834), some (a_aload 0 835), some (a_iload 3 836), some (a_iconst 3 837), some (a_iadd 838), some (a_sald 839), some (a_aload 0 840), some (a_iload 3 841), some (a_iconst 4 842), some (a_iadd 843), some (a_sald 844), some (a_aload 0 845), some (a_iload 3 846), some (a_iconst 5 847), some (a_iadd 848)],
  [some (a_sald 849), some (a_callV 11 9 90 5 852), none, none, some (a_aload 2 853), some (a_aload 0 854), some (a_iload 3 855), some (a_iconst 1 856), some (a_iadd 857), some (a_sald 858), some (a_aload 0 859), some (a_iload 3 860), some (a_iconst 2 861), some (a_iadd 862), some (a_sald 863), some (a_aload 0 864)],
  [some (a_iload 3 865), some (a_iconst 3 866), some (a_iadd 867), some (a_sald 868), some (a_aload 0 869), some (a_iload 3 870), some (a_iconst 4 871), some (a_iadd 872), some (a_sald 873), some (a_aload 0 874), some (a_iload 3 875), some (a_iconst 5 876), some (a_iadd 877), some (a_sald 878), some (a_callV 12 38 166 5 881), none],
  [none, some (a_lcmp 882), some (a_zeq 969 885), none, none, some (a_iconst 0 886), some (a_zret), some (a_aload 1 888), some (a_aload 0 889), some (a_iload 3 890), some (a_iconst 1 891), some (a_iadd 892), some (a_sald 893), some (a_aload 0 894), some (a_iload 3 895), some (a_iconst 2 896)],
  [some (a_iadd 897), some (a_sald 898), some (a_callV 11 9 91 2 901), none, none, some (a_aload 2 902), some (a_aload 0 903), some (a_iload 3 904), some (a_iconst 1 905), some (a_iadd 906), some (a_sald 907), some (a_aload 0 908), some (a_iload 3 909), some (a_iconst 2 910), some (a_iadd 911), some (a_sald 912)],
  [some (a_callV 12 38 168 2 915), none, none, some (a_ceq 969 918), none, none, some (a_iconst 0 919), some (a_zret), some (a_aload 1 921), some (a_callV 11 9 92 0 924), none, none, some (a_aload 2 925), some (a_callV 12 38 169 0 928), none, none],
  [some (a_ceq 969 931), none, none, some (a_iconst 0 932), some (a_zret), some (a_aload 1 934), some (a_callV 11 9 93 0 937), none, none, some (a_aload 2 938), some (a_callV 12 38 170 0 941), none, none, some (a_ceq 969 944), none, none],
  [some (a_iconst 0 945), some (a_zret), some (a_aload 1 947), some (a_aload 0 948), some (a_iload 3 949), some (a_iconst 1 950), some (a_iadd 951), some (a_sald 952), some (a_callV 11 9 94 1 955), none, none, some (a_aload 2 956), some (a_aload 0 957), some (a_iload 3 958), some (a_iconst 1 959), some (a_iadd 960)],
  [some (a_sald 961), some (a_callV 12 38 171 1 964), none, none, some (a_ceq 969 967), none, none, some (a_iconst 0 968), some (a_zret), some (a_iinc 3 6 972), none, none, some (a_goto 18), none, none, some (a_iconst 1 976)],
  [some (a_zret)]]
def ax_MEl : List ax_M := [(yX0_init, cX0_init, 1, none),
  (yX0_add, cX0_add, 3, none),
  (yX0_dropOldest, cX0_dropOldest, 2, none),
  (yX0_takeBack, cX0_takeBack, 2, (some FieldType.boolean)),
  (yX1_init, cX1_init, 1, none),
  (yX1_seek, cX1_seek, 3, none),
  (yX1_seekFrom, cX1_seekFrom, 8, none),
  (yX1_lackingLength, cX1_lackingLength, 4, (some FieldType.int)),
  (yX1_take, cX1_take, 5, none),
  (yX2_init, cX2_init, 2, none),
  (yX2_add, cX2_add, 2, (some FieldType.boolean)),
  (yX2_restore, cX2_restore, 2, (some FieldType.boolean)),
  (yX3_init, cX3_init, 1, none),
  (yX3_clear, cX3_clear, 1, none),
  (yX4_init, cX4_init, 1, none),
  (yX4_add, cX4_add, 3, (some FieldType.boolean)),
  (yX4_suspects, cX4_suspects, 4, (some FieldType.int)),
  (yX4_fits, cX4_fits, 4, (some FieldType.boolean)),
  (yX4_mostAlike, cX4_mostAlike, 8, (some FieldType.int)),
  (yX5_init, cX5_init, 1, none),
  (yX5_addWalk, cX5_addWalk, 4, (some FieldType.boolean)),
  (yX5_cellAfterWalks, cX5_cellAfterWalks, 7, (some FieldType.int)),
  (yX5_copyFrom, cX5_copyFrom, 2, none),
  (yX6_init, cX6_init, 1, none),
  (yX6_clear, cX6_clear, 1, none),
  (yX6_addRemnant, cX6_addRemnant, 2, (some FieldType.boolean)),
  (yX6_addOrder, cX6_addOrder, 2, (some FieldType.boolean)),
  (yX6_addFitting, cX6_addFitting, 3, (some FieldType.boolean)),
  (yX6_orderedLength, cX6_orderedLength, 3, (some FieldType.int)),
  (yX6_lengthFrom, cX6_lengthFrom, 4, (some FieldType.int)),
  (yX7_init, cX7_init, 1, none),
  (yX7_clear, cX7_clear, 1, none),
  (yX7_hasPerson, cX7_hasPerson, 2, (some FieldType.boolean)),
  (yX7_addPerson, cX7_addPerson, 5, (some FieldType.boolean)),
  (yX7_addLaw, cX7_addLaw, 4, (some FieldType.boolean)),
  (yX7_cellOf, cX7_cellOf, 3, (some FieldType.int)),
  (yX7_cellsAt, cX7_cellsAt, 3, (some (FieldType.array FieldType.int))),
  (yX7_drawnCells, cX7_drawnCells, 6, (some (FieldType.array FieldType.int))),
  (yX7_fullLength, cX7_fullLength, 5, (some FieldType.int)),
  (yX7_lengthOf, cX7_lengthOf, 3, (some FieldType.int)),
  (yX7_wayOf, cX7_wayOf, 4, (some FieldType.int)),
  (yX7_endOf, cX7_endOf, 3, (some FieldType.int)),
  (yX7_lowEndOf, cX7_lowEndOf, 3, (some FieldType.int)),
  (yX7_highEndOf, cX7_highEndOf, 3, (some FieldType.int)),
  (yX7_coverersOf, cX7_coverersOf, 6, (some FieldType.int)),
  (yX7_standersOn, cX7_standersOn, 9, (some FieldType.int)),
  (yX7_firstBroken, cX7_firstBroken, 2, (some FieldType.int)),
  (yX7_neededByLaws, cX7_neededByLaws, 4, (some FieldType.int)),
  (yX7_neededByStanders, cX7_neededByStanders, 9, (some FieldType.int)),
  (yX7_nextWatcher, cX7_nextWatcher, 5, (some FieldType.int)),
  (yX8_init, cX8_init, 1, none),
  (yX8_add, cX8_add, 2, (some FieldType.boolean)),
  (yX8_put, cX8_put, 3, none),
  (yX8_signAt, cX8_signAt, 2, (some FieldType.char)),
  (yX9_init, cX9_init, 1, none),
  (yX9_readInto, cX9_readInto, 7, (some FieldType.int)),
  (yX9_numbersOf, cX9_numbersOf, 1, (some FieldType.int)),
  (yX9_readNumbers, cX9_readNumbers, 8, (some FieldType.int)),
  (yX9_figureAt, cX9_figureAt, 3, (some FieldType.int)),
  (yX9_addItem, cX9_addItem, 5, (some FieldType.boolean)),
  (yX10_init, cX10_init, 1, none),
  (yX10_seek, cX10_seek, 2, none),
  (yX10_seekFrom, cX10_seekFrom, 10, none),
  (yX10_take, cX10_take, 5, none),
  (yX11_init, cX11_init, 1, none),
  (yX11_write, cX11_write, 2, (some FieldType.int)),
  (yX11_wipe, cX11_wipe, 2, (some FieldType.int)),
  (yX11_fault, cX11_fault, 1, (some FieldType.int)),
  (yX11_lay, cX11_lay, 2, (some FieldType.int)),
  (yX11_person, cX11_person, 3, (some FieldType.int)),
  (yX11_where, cX11_where, 3, (some FieldType.int)),
  (yX11_shadow, cX11_shadow, 5, (some FieldType.int)),
  (yX11_covers, cX11_covers, 3, (some FieldType.int)),
  (yX11_stands, cX11_stands, 3, (some FieldType.int)),
  (yX11_wear, cX11_wear, 5, (some FieldType.int)),
  (yX11_alter, cX11_alter, 5, (some FieldType.int)),
  (yX11_walk, cX11_walk, 4, (some FieldType.int)),
  (yX11_undo, cX11_undo, 1, (some FieldType.int)),
  (yX11_first, cX11_first, 5, (some FieldType.int)),
  (yX11_broken, cX11_broken, 1, (some FieldType.int)),
  (yX11_taken, cX11_taken, 5, (some FieldType.int)),
  (yX11_seen, cX11_seen, 3, (some FieldType.int)),
  (yX11_forget, cX11_forget, 2, (some FieldType.int)),
  (yX11_whose, cX11_whose, 1, (some FieldType.int)),
  (yX11_look, cX11_look, 7, (some FieldType.int)),
  (yX11_cut, cX11_cut, 2, (some FieldType.int)),
  (yX11_fittings, cX11_fittings, 3, (some FieldType.int)),
  (yX11_watchers, cX11_watchers, 7, (some FieldType.int)),
  (yX11_poplar, cX11_poplar, 3, (some FieldType.int)),
  (yX11_light, cX11_light, 4, (some FieldType.int)),
  (yX11_clouds, cX11_clouds, 12, (some FieldType.long)),
  (yX11_day, cX11_day, 8, (some FieldType.int)),
  (yX11_keep, cX11_keep, 1, (some FieldType.int)),
  (yX11_back, cX11_back, 1, (some FieldType.int)),
  (yX11_count, cX11_count, 2, (some FieldType.int)),
  (yX11_isPerson, cX11_isPerson, 2, (some FieldType.boolean)),
  (yX11_standersAt, cX11_standersAt, 3, (some FieldType.int)),
  (yX11_isHour, cX11_isHour, 1, (some FieldType.boolean)),
  (yX11_areHours, cX11_areHours, 2, (some FieldType.boolean)),
  (yX11_isCell, cX11_isCell, 1, (some FieldType.boolean)),
  (yX11_isWithin, cX11_isWithin, 3, (some FieldType.boolean)),
  (yX11_commonDivisor, cX11_commonDivisor, 3, (some FieldType.int)),
  (yX12_init, cX12_init, 1, none),
  (yX12_lays, cX12_lays, 5, none),
  (yX12_in, cX12_in, 3, (some FieldType.boolean)),
  (yX12_has, cX12_has, 2, (some FieldType.boolean)),
  (yX12_bits, cX12_bits, 3, (some FieldType.int)),
  (yX12_isPerson, cX12_isPerson, 2, (some FieldType.boolean)),
  (yX12_isHour, cX12_isHour, 1, (some FieldType.boolean)),
  (yX12_write, cX12_write, 2, (some FieldType.int)),
  (yX12_wipe, cX12_wipe, 2, (some FieldType.int)),
  (yX12_letterAt, cX12_letterAt, 2, (some FieldType.int)),
  (yX12_isFigure, cX12_isFigure, 1, (some FieldType.boolean)),
  (yX12_readNumbers, cX12_readNumbers, 3, (some FieldType.boolean)),
  (yX12_isTold, cX12_isTold, 4, (some FieldType.boolean)),
  (yX12_put, cX12_put, 5, none),
  (yX12_readPersonOf, cX12_readPersonOf, 1, (some FieldType.boolean)),
  (yX12_isHourOfOne, cX12_isHourOfOne, 1, (some FieldType.boolean)),
  (yX12_readWalk, cX12_readWalk, 1, (some FieldType.boolean)),
  (yX12_readLawOf, cX12_readLawOf, 1, (some FieldType.boolean)),
  (yX12_readRemnantOf, cX12_readRemnantOf, 1, (some FieldType.boolean)),
  (yX12_readOrderOf, cX12_readOrderOf, 1, (some FieldType.boolean)),
  (yX12_readFittingOf, cX12_readFittingOf, 1, (some FieldType.boolean)),
  (yX12_readItem, cX12_readItem, 2, (some FieldType.boolean)),
  (yX12_fault, cX12_fault, 2, (some FieldType.int)),
  (yX12_lay, cX12_lay, 1, (some FieldType.int)),
  (yX12_whereAt, cX12_whereAt, 7, (some FieldType.int)),
  (yX12_fromNoon, cX12_fromNoon, 2, (some FieldType.int)),
  (yX12_longBy, cX12_longBy, 8, (some FieldType.int)),
  (yX12_longAt, cX12_longAt, 3, (some FieldType.int)),
  (yX12_wayAt, cX12_wayAt, 4, (some FieldType.int)),
  (yX12_endAt, cX12_endAt, 3, (some FieldType.int)),
  (yX12_reaches, cX12_reaches, 5, (some FieldType.boolean)),
  (yX12_person, cX12_person, 3, (some FieldType.int)),
  (yX12_where, cX12_where, 3, (some FieldType.int)),
  (yX12_shadow, cX12_shadow, 8, (some FieldType.int)),
  (yX12_covers, cX12_covers, 5, (some FieldType.int)),
  (yX12_standOn, cX12_standOn, 6, (some FieldType.int)),
  (yX12_standsAt, cX12_standsAt, 3, (some FieldType.int)),
  (yX12_stands, cX12_stands, 3, (some FieldType.int)),
  (yX12_wear, cX12_wear, 5, (some FieldType.int)),
  (yX12_remembers, cX12_remembers, 2, none),
  (yX12_alter, cX12_alter, 4, (some FieldType.int)),
  (yX12_walk, cX12_walk, 4, (some FieldType.int)),
  (yX12_undo, cX12_undo, 2, (some FieldType.int)),
  (yX12_first, cX12_first, 5, (some FieldType.int)),
  (yX12_lowest, cX12_lowest, 2, (some FieldType.int)),
  (yX12_broken, cX12_broken, 2, (some FieldType.int)),
  (yX12_does, cX12_does, 7, (some FieldType.boolean)),
  (yX12_taken, cX12_taken, 5, (some FieldType.int)),
  (yX12_seen, cX12_seen, 3, (some FieldType.int)),
  (yX12_forget, cX12_forget, 2, (some FieldType.int)),
  (yX12_whose, cX12_whose, 5, (some FieldType.int)),
  (yX12_alike, cX12_alike, 7, (some FieldType.int)),
  (yX12_look, cX12_look, 5, (some FieldType.int)),
  (yX12_shares, cX12_shares, 9, (some FieldType.boolean)),
  (yX12_cut, cX12_cut, 8, (some FieldType.int)),
  (yX12_arranges, cX12_arranges, 9, none),
  (yX12_fittings, cX12_fittings, 7, (some FieldType.int)),
  (yX12_most, cX12_most, 2, (some FieldType.int)),
  (yX12_lowAt, cX12_lowAt, 3, (some FieldType.int)),
  (yX12_highAt, cX12_highAt, 3, (some FieldType.int)),
  (yX12_nearest, cX12_nearest, 5, (some FieldType.int)),
  (yX12_watchers, cX12_watchers, 9, (some FieldType.int)),
  (yX12_poplar, cX12_poplar, 3, (some FieldType.int)),
  (yX12_light, cX12_light, 4, (some FieldType.int)),
  (yX12_clouds, cX12_clouds, 16, (some FieldType.long)),
  (yX12_drawn, cX12_drawn, 5, (some FieldType.int)),
  (yX12_day, cX12_day, 10, (some FieldType.int)),
  (yX12_keep, cX12_keep, 2, (some FieldType.int)),
  (yX12_back, cX12_back, 2, (some FieldType.int)),
  (yX12_count, cX12_count, 2, (some FieldType.int)),
  (yJ6_numberOfTrailingZeros_0f7a4, cJ6_numberOfTrailingZeros_0f7a4, 2, (some FieldType.int)),
  (yJ6_bitCount_0f7a4, cJ6_bitCount_0f7a4, 1, (some FieldType.int)),
  (yJ9_abs_0f7a4, cJ9_abs_0f7a4, 1, (some FieldType.int)),
  (yJ9_max_7cf53, cJ9_max_7cf53, 2, (some FieldType.int)),
  (yJ9_min_7cf53, cJ9_min_7cf53, 2, (some FieldType.int)),
  (yJ0_length_8abf5, cJ0_length_8abf5, 1, (some FieldType.int)),
  (yJ0_charAt_5068e, cJ0_charAt_5068e, 2, (some FieldType.char))]
def ax_ME (y : Nat) : Option ax_M := ax_nth ax_MEl y
def ax_PRl : List (ax_T × Nat) := [(t_0, 1), (t_1, 3), (t_2, 2), (t_3, 2), (t_4, 1), (t_5, 3), (t_6, 8), (t_7, 4), (t_8, 5), (t_9, 2), (t_10, 2), (t_11, 2), (t_12, 1), (t_13, 1), (t_14, 1), (t_15, 3), (t_16, 4), (t_17, 4), (t_18, 8), (t_19, 1), (t_20, 4), (t_21, 7), (t_22, 2), (t_23, 1), (t_24, 1), (t_25, 2), (t_26, 2), (t_27, 3), (t_28, 3), (t_29, 4), (t_30, 1), (t_31, 1), (t_32, 2), (t_33, 5), (t_34, 4), (t_35, 3), (t_36, 3), (t_37, 6), (t_38, 5), (t_39, 3), (t_40, 4), (t_41, 3), (t_42, 3), (t_43, 3), (t_44, 6), (t_45, 9), (t_46, 2), (t_47, 4), (t_48, 9), (t_49, 5), (t_50, 1), (t_51, 2), (t_52, 3), (t_53, 2), (t_54, 1), (t_55, 7), (t_56, 1), (t_57, 8), (t_58, 3), (t_59, 5), (t_60, 1), (t_61, 2), (t_62, 10), (t_63, 5), (t_64, 1), (t_65, 2), (t_66, 2), (t_67, 1), (t_68, 2), (t_69, 3), (t_70, 3), (t_71, 5), (t_72, 3), (t_73, 3), (t_74, 5), (t_75, 5), (t_76, 4), (t_77, 1), (t_78, 5), (t_79, 1), (t_80, 5), (t_81, 3), (t_82, 2), (t_83, 1), (t_84, 7), (t_85, 2), (t_86, 3), (t_87, 7), (t_88, 3), (t_89, 4), (t_90, 12), (t_91, 8), (t_92, 1), (t_93, 1), (t_94, 2), (t_95, 2), (t_96, 3), (t_97, 1), (t_98, 2), (t_99, 1), (t_100, 3), (t_101, 3), (t_102, 1), (t_103, 5), (t_104, 3), (t_105, 2), (t_106, 3), (t_107, 2), (t_108, 1), (t_109, 2), (t_110, 2), (t_111, 2), (t_112, 1), (t_113, 3), (t_114, 4), (t_115, 5), (t_116, 1), (t_117, 1), (t_118, 1), (t_119, 1), (t_120, 1), (t_121, 1), (t_122, 1), (t_123, 2), (t_124, 2), (t_125, 1), (t_126, 7), (t_127, 2), (t_128, 8), (t_129, 3), (t_130, 4), (t_131, 3), (t_132, 5), (t_133, 3), (t_134, 3), (t_135, 8), (t_136, 5), (t_137, 6), (t_138, 3), (t_139, 3), (t_140, 5), (t_141, 2), (t_142, 4), (t_143, 4), (t_144, 2), (t_145, 5), (t_146, 2), (t_147, 2), (t_148, 7), (t_149, 5), (t_150, 3), (t_151, 2), (t_152, 5), (t_153, 7), (t_154, 5), (t_155, 9), (t_156, 8), (t_157, 9), (t_158, 7), (t_159, 2), (t_160, 3), (t_161, 3), (t_162, 5), (t_163, 9), (t_164, 3), (t_165, 4), (t_166, 16), (t_167, 5), (t_168, 10), (t_169, 2), (t_170, 2), (t_171, 2), (t_172, 2), (t_173, 1), (t_174, 1), (t_175, 2), (t_176, 2)]
def ax_PRf : ax_PR := fun y => ax_nth ax_PRl y
def ax_all1 (P : Nat → ax_Act → Prop) : Nat → List (Option ax_Act) → Prop
  | _, [] => True
  | k, none :: l => ax_all1 P (k + 1) l
  | k, some a :: l => P k a ∧ ax_all1 P (k + 1) l
def ax_all2 (P : Nat → ax_Act → Prop) : Nat → ax_T → Prop
  | _, [] => True
  | k, r :: t => ax_all1 P k r ∧ ax_all2 P (k + 16) t
theorem ax_all1_at {P : Nat → ax_Act → Prop} : ∀ (l : List (Option ax_Act)) (k j : Nat) (a : ax_Act), ax_all1 P k l → ax_nth l j = some (some a) → P (k + j) a
  | [], k, j, a, _, h => by cases h
  | none :: l, k, 0, a, _, h => by cases h
  | some b :: l, k, 0, a, hl, h => by
    cases h
    exact hl.1
  | none :: l, k, j + 1, a, hl, h => by
    rw [show k + (j + 1) = k + 1 + j by omega]
    exact ax_all1_at l (k + 1) j a hl h
  | some b :: l, k, j + 1, a, hl, h => by
    rw [show k + (j + 1) = k + 1 + j by omega]
    exact ax_all1_at l (k + 1) j a hl.2 h
theorem ax_all2_at {P : Nat → ax_Act → Prop} : ∀ (t : ax_T) (k j : Nat) (r : List (Option ax_Act)), ax_all2 P k t → ax_nth t j = some r → ax_all1 P (k + 16 * j) r
  | [], k, j, r, _, h => by cases h
  | b :: t, k, 0, r, hl, h => by
    cases h
    exact hl.1
  | b :: t, k, j + 1, r, hl, h => by
    rw [show k + 16 * (j + 1) = k + 16 + 16 * j by omega]
    exact ax_all2_at t (k + 16) j r hl.2 h
theorem ax_row_all {P : Nat → ax_Act → Prop} {t : ax_T} (h : ax_all2 P 0 t) : ∀ (pc : Nat) (act : ax_Act), ax_row t pc = some act → P pc act := by
  intro pc act hr
  unfold ax_row at hr
  cases h1 : ax_nth t (pc / 16) with
  | none => rw [h1] at hr; cases hr
  | some r =>
    rw [h1] at hr
    have h2 := ax_all2_at t 0 (pc / 16) r h h1
    cases h3 : ax_nth r (pc % 16) with
    | none => simp only [h3] at hr; cases hr
    | some a =>
      simp only [h3] at hr
      subst hr
      have h4 := ax_all1_at r _ (pc % 16) act h2 h3
      rw [show 0 + 16 * (pc / 16) + pc % 16 = pc by omega] at h4
      exact h4
end
section
/-! the words that the rows use, by their places (printed) -/
theorem wd_0 : Cond.selects "ShadowTailor$TextReader" ⟨"ShadowTailor$TextReader", "readNumbers", "(LShadowTailor$Text;II)I"⟩ ⟨"ShadowTailor$TextReader", "readNumbers", "(LShadowTailor$Text;II)I"⟩ ∈ ax_tbl := List.mem_filter.mpr ⟨List.mem_of_getElem? (i := 0) (by decide +kernel), rfl⟩
theorem wd_1 : Cond.selects "ShadowTailor$TextReader" ⟨"ShadowTailor$TextReader", "addItem", "(LShadowTailor$Shop;C)Z"⟩ ⟨"ShadowTailor$TextReader", "addItem", "(LShadowTailor$Shop;C)Z"⟩ ∈ ax_tbl := List.mem_filter.mpr ⟨List.mem_of_getElem? (i := 1) (by decide +kernel), rfl⟩
theorem wd_2 : Cond.selects "ShadowTailor" ⟨"ShadowTailor", "isPerson", "(I)Z"⟩ ⟨"ShadowTailor", "isPerson", "(I)Z"⟩ ∈ ax_tbl := List.mem_filter.mpr ⟨List.mem_of_getElem? (i := 2) (by decide +kernel), rfl⟩
theorem wd_3 : Cond.selects "ShadowTailor" ⟨"ShadowTailor", "standersAt", "(II)I"⟩ ⟨"ShadowTailor", "standersAt", "(II)I"⟩ ∈ ax_tbl := List.mem_filter.mpr ⟨List.mem_of_getElem? (i := 3) (by decide +kernel), rfl⟩
theorem wd_4 : Cond.selects "ShadowTailor$Changes" ⟨"ShadowTailor$Changes", "dropOldest", "()V"⟩ ⟨"ShadowTailor$Changes", "dropOldest", "()V"⟩ ∈ ax_tbl := List.mem_filter.mpr ⟨List.mem_of_getElem? (i := 4) (by decide +kernel), rfl⟩
theorem wd_5 : Cond.selects "ShadowTailor$Sightings" ⟨"ShadowTailor$Sightings", "fits", "(LShadowTailor$Street;I)Z"⟩ ⟨"ShadowTailor$Sightings", "fits", "(LShadowTailor$Street;I)Z"⟩ ∈ ax_tbl := List.mem_filter.mpr ⟨List.mem_of_getElem? (i := 5) (by decide +kernel), rfl⟩
theorem wd_6 : Cond.selects "ShadowTailor$Cutting" ⟨"ShadowTailor$Cutting", "seekFrom", "(LShadowTailor$Stock;III)V"⟩ ⟨"ShadowTailor$Cutting", "seekFrom", "(LShadowTailor$Stock;III)V"⟩ ∈ ax_tbl := List.mem_filter.mpr ⟨List.mem_of_getElem? (i := 6) (by decide +kernel), rfl⟩
theorem wd_7 : Cond.selects "ShadowTailor$Cutting" ⟨"ShadowTailor$Cutting", "lackingLength", "(LShadowTailor$Stock;)I"⟩ ⟨"ShadowTailor$Cutting", "lackingLength", "(LShadowTailor$Stock;)I"⟩ ∈ ax_tbl := List.mem_filter.mpr ⟨List.mem_of_getElem? (i := 7) (by decide +kernel), rfl⟩
theorem wd_8 : Cond.selects "ShadowTailor$Cutting" ⟨"ShadowTailor$Cutting", "take", "(LShadowTailor$Stock;II)V"⟩ ⟨"ShadowTailor$Cutting", "take", "(LShadowTailor$Stock;II)V"⟩ ∈ ax_tbl := List.mem_filter.mpr ⟨List.mem_of_getElem? (i := 8) (by decide +kernel), rfl⟩
theorem wd_9 : Cond.selects "ShadowTailor$Timetable" ⟨"ShadowTailor$Timetable", "seekFrom", "(LShadowTailor$Stock;IIIII)V"⟩ ⟨"ShadowTailor$Timetable", "seekFrom", "(LShadowTailor$Stock;IIIII)V"⟩ ∈ ax_tbl := List.mem_filter.mpr ⟨List.mem_of_getElem? (i := 9) (by decide +kernel), rfl⟩
theorem wd_10 : Cond.selects "ShadowTailor$Timetable" ⟨"ShadowTailor$Timetable", "take", "(LShadowTailor$Stock;II)V"⟩ ⟨"ShadowTailor$Timetable", "take", "(LShadowTailor$Stock;II)V"⟩ ∈ ax_tbl := List.mem_filter.mpr ⟨List.mem_of_getElem? (i := 10) (by decide +kernel), rfl⟩
theorem wd_11 : Cond.selects "ShadowTailorModel" ⟨"ShadowTailorModel", "readItem", "()Z"⟩ ⟨"ShadowTailorModel", "readItem", "()Z"⟩ ∈ ax_tbl := List.mem_filter.mpr ⟨List.mem_of_getElem? (i := 11) (by decide +kernel), rfl⟩
theorem wd_12 : Cond.selects "ShadowTailorModel" ⟨"ShadowTailorModel", "letterAt", "(I)I"⟩ ⟨"ShadowTailorModel", "letterAt", "(I)I"⟩ ∈ ax_tbl := List.mem_filter.mpr ⟨List.mem_of_getElem? (i := 12) (by decide +kernel), rfl⟩
theorem wd_13 : Cond.selects "ShadowTailorModel" ⟨"ShadowTailorModel", "readPersonOf", "()Z"⟩ ⟨"ShadowTailorModel", "readPersonOf", "()Z"⟩ ∈ ax_tbl := List.mem_filter.mpr ⟨List.mem_of_getElem? (i := 13) (by decide +kernel), rfl⟩
theorem wd_14 : Cond.selects "ShadowTailorModel" ⟨"ShadowTailorModel", "readNumbers", "(I)Z"⟩ ⟨"ShadowTailorModel", "readNumbers", "(I)Z"⟩ ∈ ax_tbl := List.mem_filter.mpr ⟨List.mem_of_getElem? (i := 14) (by decide +kernel), rfl⟩
theorem wd_15 : Cond.selects "ShadowTailorModel" ⟨"ShadowTailorModel", "isTold", "(III)Z"⟩ ⟨"ShadowTailorModel", "isTold", "(III)Z"⟩ ∈ ax_tbl := List.mem_filter.mpr ⟨List.mem_of_getElem? (i := 15) (by decide +kernel), rfl⟩
theorem wd_16 : Cond.selects "ShadowTailorModel" ⟨"ShadowTailorModel", "readWalk", "()Z"⟩ ⟨"ShadowTailorModel", "readWalk", "()Z"⟩ ∈ ax_tbl := List.mem_filter.mpr ⟨List.mem_of_getElem? (i := 16) (by decide +kernel), rfl⟩
theorem wd_17 : Cond.selects "ShadowTailorModel" ⟨"ShadowTailorModel", "isHourOfOne", "()Z"⟩ ⟨"ShadowTailorModel", "isHourOfOne", "()Z"⟩ ∈ ax_tbl := List.mem_filter.mpr ⟨List.mem_of_getElem? (i := 17) (by decide +kernel), rfl⟩
theorem wd_18 : Cond.selects "ShadowTailorModel" ⟨"ShadowTailorModel", "readLawOf", "()Z"⟩ ⟨"ShadowTailorModel", "readLawOf", "()Z"⟩ ∈ ax_tbl := List.mem_filter.mpr ⟨List.mem_of_getElem? (i := 18) (by decide +kernel), rfl⟩
theorem wd_19 : Cond.selects "ShadowTailorModel" ⟨"ShadowTailorModel", "readRemnantOf", "()Z"⟩ ⟨"ShadowTailorModel", "readRemnantOf", "()Z"⟩ ∈ ax_tbl := List.mem_filter.mpr ⟨List.mem_of_getElem? (i := 19) (by decide +kernel), rfl⟩
theorem wd_20 : Cond.selects "ShadowTailorModel" ⟨"ShadowTailorModel", "readOrderOf", "()Z"⟩ ⟨"ShadowTailorModel", "readOrderOf", "()Z"⟩ ∈ ax_tbl := List.mem_filter.mpr ⟨List.mem_of_getElem? (i := 20) (by decide +kernel), rfl⟩
theorem wd_21 : Cond.selects "ShadowTailorModel" ⟨"ShadowTailorModel", "readFittingOf", "()Z"⟩ ⟨"ShadowTailorModel", "readFittingOf", "()Z"⟩ ∈ ax_tbl := List.mem_filter.mpr ⟨List.mem_of_getElem? (i := 21) (by decide +kernel), rfl⟩
theorem wd_22 : Cond.selects "ShadowTailorModel" ⟨"ShadowTailorModel", "isPerson", "(I)Z"⟩ ⟨"ShadowTailorModel", "isPerson", "(I)Z"⟩ ∈ ax_tbl := List.mem_filter.mpr ⟨List.mem_of_getElem? (i := 22) (by decide +kernel), rfl⟩
theorem wd_23 : Cond.selects "ShadowTailorModel" ⟨"ShadowTailorModel", "whereAt", "(II)I"⟩ ⟨"ShadowTailorModel", "whereAt", "(II)I"⟩ ∈ ax_tbl := List.mem_filter.mpr ⟨List.mem_of_getElem? (i := 23) (by decide +kernel), rfl⟩
theorem wd_24 : Cond.selects "ShadowTailorModel" ⟨"ShadowTailorModel", "longAt", "(II)I"⟩ ⟨"ShadowTailorModel", "longAt", "(II)I"⟩ ∈ ax_tbl := List.mem_filter.mpr ⟨List.mem_of_getElem? (i := 24) (by decide +kernel), rfl⟩
theorem wd_25 : Cond.selects "ShadowTailorModel" ⟨"ShadowTailorModel", "longBy", "(III)I"⟩ ⟨"ShadowTailorModel", "longBy", "(III)I"⟩ ∈ ax_tbl := List.mem_filter.mpr ⟨List.mem_of_getElem? (i := 25) (by decide +kernel), rfl⟩
theorem wd_26 : Cond.selects "ShadowTailorModel" ⟨"ShadowTailorModel", "fromNoon", "(I)I"⟩ ⟨"ShadowTailorModel", "fromNoon", "(I)I"⟩ ∈ ax_tbl := List.mem_filter.mpr ⟨List.mem_of_getElem? (i := 26) (by decide +kernel), rfl⟩
theorem wd_27 : Cond.selects "ShadowTailorModel" ⟨"ShadowTailorModel", "wayAt", "(II)I"⟩ ⟨"ShadowTailorModel", "wayAt", "(II)I"⟩ ∈ ax_tbl := List.mem_filter.mpr ⟨List.mem_of_getElem? (i := 27) (by decide +kernel), rfl⟩
theorem wd_28 : Cond.selects "ShadowTailorModel" ⟨"ShadowTailorModel", "endAt", "(II)I"⟩ ⟨"ShadowTailorModel", "endAt", "(II)I"⟩ ∈ ax_tbl := List.mem_filter.mpr ⟨List.mem_of_getElem? (i := 28) (by decide +kernel), rfl⟩
theorem wd_29 : Cond.selects "ShadowTailorModel" ⟨"ShadowTailorModel", "standsAt", "(II)I"⟩ ⟨"ShadowTailorModel", "standsAt", "(II)I"⟩ ∈ ax_tbl := List.mem_filter.mpr ⟨List.mem_of_getElem? (i := 29) (by decide +kernel), rfl⟩
theorem wd_30 : Cond.selects "ShadowTailorModel" ⟨"ShadowTailorModel", "standOn", "(III)I"⟩ ⟨"ShadowTailorModel", "standOn", "(III)I"⟩ ∈ ax_tbl := List.mem_filter.mpr ⟨List.mem_of_getElem? (i := 30) (by decide +kernel), rfl⟩
theorem wd_31 : Cond.selects "ShadowTailorModel" ⟨"ShadowTailorModel", "remembers", "()V"⟩ ⟨"ShadowTailorModel", "remembers", "()V"⟩ ∈ ax_tbl := List.mem_filter.mpr ⟨List.mem_of_getElem? (i := 31) (by decide +kernel), rfl⟩
theorem wd_32 : Cond.selects "ShadowTailorModel" ⟨"ShadowTailorModel", "does", "(IIII)Z"⟩ ⟨"ShadowTailorModel", "does", "(IIII)Z"⟩ ∈ ax_tbl := List.mem_filter.mpr ⟨List.mem_of_getElem? (i := 32) (by decide +kernel), rfl⟩
theorem wd_33 : Cond.selects "ShadowTailorModel" ⟨"ShadowTailorModel", "alike", "(II)I"⟩ ⟨"ShadowTailorModel", "alike", "(II)I"⟩ ∈ ax_tbl := List.mem_filter.mpr ⟨List.mem_of_getElem? (i := 33) (by decide +kernel), rfl⟩
theorem wd_34 : Cond.selects "ShadowTailorModel" ⟨"ShadowTailorModel", "shares", "(I)Z"⟩ ⟨"ShadowTailorModel", "shares", "(I)Z"⟩ ∈ ax_tbl := List.mem_filter.mpr ⟨List.mem_of_getElem? (i := 34) (by decide +kernel), rfl⟩
theorem wd_35 : Cond.selects "ShadowTailorModel" ⟨"ShadowTailorModel", "arranges", "(I)V"⟩ ⟨"ShadowTailorModel", "arranges", "(I)V"⟩ ∈ ax_tbl := List.mem_filter.mpr ⟨List.mem_of_getElem? (i := 35) (by decide +kernel), rfl⟩
theorem wd_36 : Cond.selects "ShadowTailorModel" ⟨"ShadowTailorModel", "nearest", "(II)I"⟩ ⟨"ShadowTailorModel", "nearest", "(II)I"⟩ ∈ ax_tbl := List.mem_filter.mpr ⟨List.mem_of_getElem? (i := 36) (by decide +kernel), rfl⟩
theorem wd_37 : Cond.selects "ShadowTailorModel" ⟨"ShadowTailorModel", "highAt", "(II)I"⟩ ⟨"ShadowTailorModel", "highAt", "(II)I"⟩ ∈ ax_tbl := List.mem_filter.mpr ⟨List.mem_of_getElem? (i := 37) (by decide +kernel), rfl⟩
theorem wd_38 : Cond.selects "ShadowTailorModel" ⟨"ShadowTailorModel", "lowAt", "(II)I"⟩ ⟨"ShadowTailorModel", "lowAt", "(II)I"⟩ ∈ ax_tbl := List.mem_filter.mpr ⟨List.mem_of_getElem? (i := 38) (by decide +kernel), rfl⟩
theorem wd_40 : Cond.initialized "ShadowTailor" ∈ ax_tbl := List.mem_filter.mpr ⟨List.mem_of_getElem? (i := 40) (by decide +kernel), rfl⟩
theorem wd_41 : Cond.initialized "ShadowTailor$Text" ∈ ax_tbl := List.mem_filter.mpr ⟨List.mem_of_getElem? (i := 41) (by decide +kernel), rfl⟩
theorem wd_42 : Cond.initialized "ShadowTailor$TextReader" ∈ ax_tbl := List.mem_filter.mpr ⟨List.mem_of_getElem? (i := 42) (by decide +kernel), rfl⟩
theorem wd_43 : Cond.initialized "ShadowTailor$Changes" ∈ ax_tbl := List.mem_filter.mpr ⟨List.mem_of_getElem? (i := 43) (by decide +kernel), rfl⟩
theorem wd_44 : Cond.initialized "ShadowTailor$Kept" ∈ ax_tbl := List.mem_filter.mpr ⟨List.mem_of_getElem? (i := 44) (by decide +kernel), rfl⟩
theorem wd_45 : Cond.initialized "ShadowTailor$State" ∈ ax_tbl := List.mem_filter.mpr ⟨List.mem_of_getElem? (i := 45) (by decide +kernel), rfl⟩
theorem wd_46 : Cond.initialized "ShadowTailor$Sightings" ∈ ax_tbl := List.mem_filter.mpr ⟨List.mem_of_getElem? (i := 46) (by decide +kernel), rfl⟩
theorem wd_47 : Cond.initialized "ShadowTailor$Cutting" ∈ ax_tbl := List.mem_filter.mpr ⟨List.mem_of_getElem? (i := 47) (by decide +kernel), rfl⟩
theorem wd_48 : Cond.initialized "ShadowTailor$Timetable" ∈ ax_tbl := List.mem_filter.mpr ⟨List.mem_of_getElem? (i := 48) (by decide +kernel), rfl⟩
theorem wd_49 : Cond.initialized "ShadowTailor$Shop" ∈ ax_tbl := List.mem_filter.mpr ⟨List.mem_of_getElem? (i := 49) (by decide +kernel), rfl⟩
theorem wd_50 : Cond.initialized "ShadowTailor$Street" ∈ ax_tbl := List.mem_filter.mpr ⟨List.mem_of_getElem? (i := 50) (by decide +kernel), rfl⟩
theorem wd_51 : Cond.initialized "ShadowTailor$Stock" ∈ ax_tbl := List.mem_filter.mpr ⟨List.mem_of_getElem? (i := 51) (by decide +kernel), rfl⟩
theorem wd_52 : Cond.initialized "java/lang/String" ∈ ax_tbl := List.mem_filter.mpr ⟨List.mem_of_getElem? (i := 52) (by decide +kernel), rfl⟩
theorem wd_56 : Cond.initialized "ShadowTailorModel" ∈ ax_tbl := List.mem_filter.mpr ⟨List.mem_of_getElem? (i := 56) (by decide +kernel), rfl⟩
theorem wd_57 : Cond.initialized "java/lang/Math" ∈ ax_tbl := List.mem_filter.mpr ⟨List.mem_of_getElem? (i := 57) (by decide +kernel), rfl⟩
theorem wd_58 : Cond.initialized "java/lang/Integer" ∈ ax_tbl := List.mem_filter.mpr ⟨List.mem_of_getElem? (i := 58) (by decide +kernel), rfl⟩
theorem wd_59 : Cond.initialized "java/lang/System" ∈ ax_tbl := List.mem_filter.mpr ⟨List.mem_of_getElem? (i := 59) (by decide +kernel), rfl⟩
theorem wd_60 : Cond.classLink "ShadowTailorLaw" (7 : Nat) "ShadowTailor" ∈ ax_tbl := List.mem_filter.mpr ⟨List.mem_of_getElem? (i := 60) (by decide +kernel), rfl⟩
theorem wd_61 : Cond.instantiable "ShadowTailor" (9 : Nat) ∈ ax_tbl := List.mem_filter.mpr ⟨List.mem_of_getElem? (i := 61) (by decide +kernel), rfl⟩
theorem wd_62 : Cond.methodLink "ShadowTailorLaw" (9 : Nat) ({ cls := "ShadowTailor", name := "<init>", desc := "()V" } : MethodName) ∈ ax_tbl := List.mem_filter.mpr ⟨List.mem_of_getElem? (i := 62) (by decide +kernel), rfl⟩
theorem wd_63 : Cond.instanceMethod ({ cls := "ShadowTailor", name := "<init>", desc := "()V" } : MethodName) ∈ ax_tbl := List.mem_filter.mpr ⟨List.mem_of_getElem? (i := 63) (by decide +kernel), rfl⟩
theorem wd_64 : Cond.code ({ cls := "ShadowTailor", name := "<init>", desc := "()V" } : MethodName) prog_1_method_1_code (1 : Nat) (Option.none : Option FieldType) ∈ ax_tbl := List.mem_filter.mpr ⟨List.mem_of_getElem? (i := 64) (by decide +kernel), rfl⟩
theorem wd_65 : Cond.methodLink "ShadowTailor" (1 : Nat) ({ cls := "java/lang/Object", name := "<init>", desc := "()V" } : MethodName) ∈ ax_tbl := List.mem_filter.mpr ⟨List.mem_of_getElem? (i := 65) (by decide +kernel), rfl⟩
theorem wd_66 : Cond.instanceMethod ({ cls := "java/lang/Object", name := "<init>", desc := "()V" } : MethodName) ∈ ax_tbl := List.mem_filter.mpr ⟨List.mem_of_getElem? (i := 66) (by decide +kernel), rfl⟩
theorem wd_67 : Cond.code ({ cls := "java/lang/Object", name := "<init>", desc := "()V" } : MethodName) object_method_1_code (1 : Nat) (Option.none : Option FieldType) ∈ ax_tbl := List.mem_filter.mpr ⟨List.mem_of_getElem? (i := 67) (by decide +kernel), rfl⟩
theorem wd_68 : Cond.classLink "ShadowTailor" (7 : Nat) "ShadowTailor$Text" ∈ ax_tbl := List.mem_filter.mpr ⟨List.mem_of_getElem? (i := 68) (by decide +kernel), rfl⟩
theorem wd_69 : Cond.instantiable "ShadowTailor$Text" (2 : Nat) ∈ ax_tbl := List.mem_filter.mpr ⟨List.mem_of_getElem? (i := 69) (by decide +kernel), rfl⟩
theorem wd_70 : Cond.methodLinkNest "ShadowTailor" (9 : Nat) ({ cls := "ShadowTailor$Text", name := "<init>", desc := "()V" } : MethodName) "ShadowTailor" ∈ ax_tbl := List.mem_filter.mpr ⟨List.mem_of_getElem? (i := 70) (by decide +kernel), rfl⟩
theorem wd_71 : Cond.instanceMethod ({ cls := "ShadowTailor$Text", name := "<init>", desc := "()V" } : MethodName) ∈ ax_tbl := List.mem_filter.mpr ⟨List.mem_of_getElem? (i := 71) (by decide +kernel), rfl⟩
theorem wd_72 : Cond.code ({ cls := "ShadowTailor$Text", name := "<init>", desc := "()V" } : MethodName) prog_10_method_1_code (1 : Nat) (Option.none : Option FieldType) ∈ ax_tbl := List.mem_filter.mpr ⟨List.mem_of_getElem? (i := 72) (by decide +kernel), rfl⟩
theorem wd_73 : Cond.methodLink "ShadowTailor$Text" (3 : Nat) ({ cls := "java/lang/Object", name := "<init>", desc := "()V" } : MethodName) ∈ ax_tbl := List.mem_filter.mpr ⟨List.mem_of_getElem? (i := 73) (by decide +kernel), rfl⟩
theorem wd_74 : Cond.fieldLink "ShadowTailor$Text" (9 : Nat) "ShadowTailor$Text" "signs" "[C" ∈ ax_tbl := List.mem_filter.mpr ⟨List.mem_of_getElem? (i := 74) (by decide +kernel), rfl⟩
theorem wd_75 : Cond.fieldLinkNest "ShadowTailor" (78 : Nat) "ShadowTailor$Text" "length" "I" "ShadowTailor" ∈ ax_tbl := List.mem_filter.mpr ⟨List.mem_of_getElem? (i := 75) (by decide +kernel), rfl⟩
theorem wd_76 : Cond.fieldLink "ShadowTailor$Text" (15 : Nat) "ShadowTailor$Text" "length" "I" ∈ ax_tbl := List.mem_filter.mpr ⟨List.mem_of_getElem? (i := 76) (by decide +kernel), rfl⟩
theorem wd_77 : Cond.fieldLinkNest "ShadowTailor$TextReader" (20 : Nat) "ShadowTailor$Text" "length" "I" "ShadowTailor" ∈ ax_tbl := List.mem_filter.mpr ⟨List.mem_of_getElem? (i := 77) (by decide +kernel), rfl⟩
theorem wd_83 : Cond.arrayClass FieldType.char ∈ ax_tbl := List.mem_filter.mpr ⟨List.mem_of_getElem? (i := 83) (by decide +kernel), rfl⟩
theorem wd_84 : Cond.classLink "ShadowTailor" (16 : Nat) "ShadowTailor$TextReader" ∈ ax_tbl := List.mem_filter.mpr ⟨List.mem_of_getElem? (i := 84) (by decide +kernel), rfl⟩
theorem wd_85 : Cond.instantiable "ShadowTailor$TextReader" (1 : Nat) ∈ ax_tbl := List.mem_filter.mpr ⟨List.mem_of_getElem? (i := 85) (by decide +kernel), rfl⟩
theorem wd_86 : Cond.methodLinkNest "ShadowTailor" (18 : Nat) ({ cls := "ShadowTailor$TextReader", name := "<init>", desc := "()V" } : MethodName) "ShadowTailor" ∈ ax_tbl := List.mem_filter.mpr ⟨List.mem_of_getElem? (i := 86) (by decide +kernel), rfl⟩
theorem wd_87 : Cond.instanceMethod ({ cls := "ShadowTailor$TextReader", name := "<init>", desc := "()V" } : MethodName) ∈ ax_tbl := List.mem_filter.mpr ⟨List.mem_of_getElem? (i := 87) (by decide +kernel), rfl⟩
theorem wd_88 : Cond.code ({ cls := "ShadowTailor$TextReader", name := "<init>", desc := "()V" } : MethodName) prog_11_method_1_code (1 : Nat) (Option.none : Option FieldType) ∈ ax_tbl := List.mem_filter.mpr ⟨List.mem_of_getElem? (i := 88) (by decide +kernel), rfl⟩
theorem wd_89 : Cond.methodLink "ShadowTailor$TextReader" (3 : Nat) ({ cls := "java/lang/Object", name := "<init>", desc := "()V" } : MethodName) ∈ ax_tbl := List.mem_filter.mpr ⟨List.mem_of_getElem? (i := 89) (by decide +kernel), rfl⟩
theorem wd_90 : Cond.fieldLink "ShadowTailor$TextReader" (9 : Nat) "ShadowTailor$TextReader" "numbers" "[I" ∈ ax_tbl := List.mem_filter.mpr ⟨List.mem_of_getElem? (i := 90) (by decide +kernel), rfl⟩
theorem wd_94 : Cond.arrayClass FieldType.int ∈ ax_tbl := List.mem_filter.mpr ⟨List.mem_of_getElem? (i := 94) (by decide +kernel), rfl⟩
theorem wd_95 : Cond.classLink "ShadowTailor" (23 : Nat) "ShadowTailor$Changes" ∈ ax_tbl := List.mem_filter.mpr ⟨List.mem_of_getElem? (i := 95) (by decide +kernel), rfl⟩
theorem wd_96 : Cond.instantiable "ShadowTailor$Changes" (3 : Nat) ∈ ax_tbl := List.mem_filter.mpr ⟨List.mem_of_getElem? (i := 96) (by decide +kernel), rfl⟩
theorem wd_97 : Cond.methodLinkNest "ShadowTailor" (25 : Nat) ({ cls := "ShadowTailor$Changes", name := "<init>", desc := "()V" } : MethodName) "ShadowTailor" ∈ ax_tbl := List.mem_filter.mpr ⟨List.mem_of_getElem? (i := 97) (by decide +kernel), rfl⟩
theorem wd_98 : Cond.instanceMethod ({ cls := "ShadowTailor$Changes", name := "<init>", desc := "()V" } : MethodName) ∈ ax_tbl := List.mem_filter.mpr ⟨List.mem_of_getElem? (i := 98) (by decide +kernel), rfl⟩
theorem wd_99 : Cond.code ({ cls := "ShadowTailor$Changes", name := "<init>", desc := "()V" } : MethodName) prog_2_method_1_code (1 : Nat) (Option.none : Option FieldType) ∈ ax_tbl := List.mem_filter.mpr ⟨List.mem_of_getElem? (i := 99) (by decide +kernel), rfl⟩
theorem wd_100 : Cond.methodLink "ShadowTailor$Changes" (3 : Nat) ({ cls := "java/lang/Object", name := "<init>", desc := "()V" } : MethodName) ∈ ax_tbl := List.mem_filter.mpr ⟨List.mem_of_getElem? (i := 100) (by decide +kernel), rfl⟩
theorem wd_101 : Cond.fieldLink "ShadowTailor$Changes" (9 : Nat) "ShadowTailor$Changes" "whom" "[I" ∈ ax_tbl := List.mem_filter.mpr ⟨List.mem_of_getElem? (i := 101) (by decide +kernel), rfl⟩
theorem wd_102 : Cond.fieldLink "ShadowTailor$Changes" (15 : Nat) "ShadowTailor$Changes" "was" "[I" ∈ ax_tbl := List.mem_filter.mpr ⟨List.mem_of_getElem? (i := 102) (by decide +kernel), rfl⟩
theorem wd_103 : Cond.fieldLink "ShadowTailor$Changes" (18 : Nat) "ShadowTailor$Changes" "many" "I" ∈ ax_tbl := List.mem_filter.mpr ⟨List.mem_of_getElem? (i := 103) (by decide +kernel), rfl⟩
theorem wd_104 : Cond.fieldLinkNest "ShadowTailor" (98 : Nat) "ShadowTailor$Changes" "many" "I" "ShadowTailor" ∈ ax_tbl := List.mem_filter.mpr ⟨List.mem_of_getElem? (i := 104) (by decide +kernel), rfl⟩
theorem wd_112 : Cond.classLink "ShadowTailor" (30 : Nat) "ShadowTailor$Kept" ∈ ax_tbl := List.mem_filter.mpr ⟨List.mem_of_getElem? (i := 112) (by decide +kernel), rfl⟩
theorem wd_113 : Cond.instantiable "ShadowTailor$Kept" (2 : Nat) ∈ ax_tbl := List.mem_filter.mpr ⟨List.mem_of_getElem? (i := 113) (by decide +kernel), rfl⟩
theorem wd_114 : Cond.methodLink "ShadowTailor" (32 : Nat) ({ cls := "ShadowTailor$Kept", name := "<init>", desc := "()V" } : MethodName) ∈ ax_tbl := List.mem_filter.mpr ⟨List.mem_of_getElem? (i := 114) (by decide +kernel), rfl⟩
theorem wd_115 : Cond.instanceMethod ({ cls := "ShadowTailor$Kept", name := "<init>", desc := "()V" } : MethodName) ∈ ax_tbl := List.mem_filter.mpr ⟨List.mem_of_getElem? (i := 115) (by decide +kernel), rfl⟩
theorem wd_116 : Cond.code ({ cls := "ShadowTailor$Kept", name := "<init>", desc := "()V" } : MethodName) prog_4_method_1_code (2 : Nat) (Option.none : Option FieldType) ∈ ax_tbl := List.mem_filter.mpr ⟨List.mem_of_getElem? (i := 116) (by decide +kernel), rfl⟩
theorem wd_117 : Cond.methodLink "ShadowTailor$Kept" (3 : Nat) ({ cls := "java/lang/Object", name := "<init>", desc := "()V" } : MethodName) ∈ ax_tbl := List.mem_filter.mpr ⟨List.mem_of_getElem? (i := 117) (by decide +kernel), rfl⟩
theorem wd_118 : Cond.classLink "ShadowTailor$Kept" (9 : Nat) "ShadowTailor$State" ∈ ax_tbl := List.mem_filter.mpr ⟨List.mem_of_getElem? (i := 118) (by decide +kernel), rfl⟩
theorem wd_119 : Cond.arrayOver (FieldType.object "ShadowTailor$State") ∈ ax_tbl := List.mem_filter.mpr ⟨List.mem_of_getElem? (i := 119) (by decide +kernel), rfl⟩
theorem wd_120 : Cond.instantiable "ShadowTailor$State" (5 : Nat) ∈ ax_tbl := List.mem_filter.mpr ⟨List.mem_of_getElem? (i := 120) (by decide +kernel), rfl⟩
theorem wd_121 : Cond.methodLinkNest "ShadowTailor$Kept" (17 : Nat) ({ cls := "ShadowTailor$State", name := "<init>", desc := "()V" } : MethodName) "ShadowTailor" ∈ ax_tbl := List.mem_filter.mpr ⟨List.mem_of_getElem? (i := 121) (by decide +kernel), rfl⟩
theorem wd_122 : Cond.instanceMethod ({ cls := "ShadowTailor$State", name := "<init>", desc := "()V" } : MethodName) ∈ ax_tbl := List.mem_filter.mpr ⟨List.mem_of_getElem? (i := 122) (by decide +kernel), rfl⟩
theorem wd_123 : Cond.code ({ cls := "ShadowTailor$State", name := "<init>", desc := "()V" } : MethodName) prog_7_method_1_code (1 : Nat) (Option.none : Option FieldType) ∈ ax_tbl := List.mem_filter.mpr ⟨List.mem_of_getElem? (i := 123) (by decide +kernel), rfl⟩
theorem wd_124 : Cond.methodLink "ShadowTailor$State" (3 : Nat) ({ cls := "java/lang/Object", name := "<init>", desc := "()V" } : MethodName) ∈ ax_tbl := List.mem_filter.mpr ⟨List.mem_of_getElem? (i := 124) (by decide +kernel), rfl⟩
theorem wd_125 : Cond.fieldLink "ShadowTailor$State" (9 : Nat) "ShadowTailor$State" "taken" "[I" ∈ ax_tbl := List.mem_filter.mpr ⟨List.mem_of_getElem? (i := 125) (by decide +kernel), rfl⟩
theorem wd_126 : Cond.fieldLinkNest "ShadowTailor$Changes" (30 : Nat) "ShadowTailor$State" "taken" "[I" "ShadowTailor" ∈ ax_tbl := List.mem_filter.mpr ⟨List.mem_of_getElem? (i := 126) (by decide +kernel), rfl⟩
theorem wd_127 : Cond.fieldLinkNest "ShadowTailor$Street" (58 : Nat) "ShadowTailor$State" "taken" "[I" "ShadowTailor" ∈ ax_tbl := List.mem_filter.mpr ⟨List.mem_of_getElem? (i := 127) (by decide +kernel), rfl⟩
theorem wd_128 : Cond.fieldLinkNest "ShadowTailor" (120 : Nat) "ShadowTailor$State" "taken" "[I" "ShadowTailor" ∈ ax_tbl := List.mem_filter.mpr ⟨List.mem_of_getElem? (i := 128) (by decide +kernel), rfl⟩
theorem wd_129 : Cond.fieldLink "ShadowTailor$State" (15 : Nat) "ShadowTailor$State" "walker" "[I" ∈ ax_tbl := List.mem_filter.mpr ⟨List.mem_of_getElem? (i := 129) (by decide +kernel), rfl⟩
theorem wd_130 : Cond.fieldLink "ShadowTailor$State" (18 : Nat) "ShadowTailor$State" "walkHour" "[I" ∈ ax_tbl := List.mem_filter.mpr ⟨List.mem_of_getElem? (i := 130) (by decide +kernel), rfl⟩
theorem wd_131 : Cond.fieldLink "ShadowTailor$State" (21 : Nat) "ShadowTailor$State" "walkCell" "[I" ∈ ax_tbl := List.mem_filter.mpr ⟨List.mem_of_getElem? (i := 131) (by decide +kernel), rfl⟩
theorem wd_132 : Cond.fieldLink "ShadowTailor$State" (24 : Nat) "ShadowTailor$State" "walks" "I" ∈ ax_tbl := List.mem_filter.mpr ⟨List.mem_of_getElem? (i := 132) (by decide +kernel), rfl⟩
theorem wd_133 : Cond.fieldLinkNest "ShadowTailor$Street" (47 : Nat) "ShadowTailor$State" "walks" "I" "ShadowTailor" ∈ ax_tbl := List.mem_filter.mpr ⟨List.mem_of_getElem? (i := 133) (by decide +kernel), rfl⟩
theorem wd_134 : Cond.fieldLinkNest "ShadowTailor$Changes" (25 : Nat) "ShadowTailor$State" "walks" "I" "ShadowTailor" ∈ ax_tbl := List.mem_filter.mpr ⟨List.mem_of_getElem? (i := 134) (by decide +kernel), rfl⟩
theorem wd_135 : Cond.fieldLinkNest "ShadowTailor" (163 : Nat) "ShadowTailor$State" "walks" "I" "ShadowTailor" ∈ ax_tbl := List.mem_filter.mpr ⟨List.mem_of_getElem? (i := 135) (by decide +kernel), rfl⟩
theorem wd_147 : Cond.fieldLink "ShadowTailor$Kept" (11 : Nat) "ShadowTailor$Kept" "states" "[LShadowTailor$State;" ∈ ax_tbl := List.mem_filter.mpr ⟨List.mem_of_getElem? (i := 147) (by decide +kernel), rfl⟩
theorem wd_148 : Cond.fieldLink "ShadowTailor$Kept" (18 : Nat) "ShadowTailor$Kept" "many" "I" ∈ ax_tbl := List.mem_filter.mpr ⟨List.mem_of_getElem? (i := 148) (by decide +kernel), rfl⟩
theorem wd_149 : Cond.fieldLinkNest "ShadowTailor" (99 : Nat) "ShadowTailor$Kept" "many" "I" "ShadowTailor" ∈ ax_tbl := List.mem_filter.mpr ⟨List.mem_of_getElem? (i := 149) (by decide +kernel), rfl⟩
theorem wd_155 : Cond.classLink "ShadowTailor" (37 : Nat) "ShadowTailor$Sightings" ∈ ax_tbl := List.mem_filter.mpr ⟨List.mem_of_getElem? (i := 155) (by decide +kernel), rfl⟩
theorem wd_156 : Cond.instantiable "ShadowTailor$Sightings" (3 : Nat) ∈ ax_tbl := List.mem_filter.mpr ⟨List.mem_of_getElem? (i := 156) (by decide +kernel), rfl⟩
theorem wd_157 : Cond.methodLinkNest "ShadowTailor" (39 : Nat) ({ cls := "ShadowTailor$Sightings", name := "<init>", desc := "()V" } : MethodName) "ShadowTailor" ∈ ax_tbl := List.mem_filter.mpr ⟨List.mem_of_getElem? (i := 157) (by decide +kernel), rfl⟩
theorem wd_158 : Cond.instanceMethod ({ cls := "ShadowTailor$Sightings", name := "<init>", desc := "()V" } : MethodName) ∈ ax_tbl := List.mem_filter.mpr ⟨List.mem_of_getElem? (i := 158) (by decide +kernel), rfl⟩
theorem wd_159 : Cond.code ({ cls := "ShadowTailor$Sightings", name := "<init>", desc := "()V" } : MethodName) prog_6_method_1_code (1 : Nat) (Option.none : Option FieldType) ∈ ax_tbl := List.mem_filter.mpr ⟨List.mem_of_getElem? (i := 159) (by decide +kernel), rfl⟩
theorem wd_160 : Cond.methodLink "ShadowTailor$Sightings" (3 : Nat) ({ cls := "java/lang/Object", name := "<init>", desc := "()V" } : MethodName) ∈ ax_tbl := List.mem_filter.mpr ⟨List.mem_of_getElem? (i := 160) (by decide +kernel), rfl⟩
theorem wd_161 : Cond.fieldLink "ShadowTailor$Sightings" (9 : Nat) "ShadowTailor$Sightings" "hour" "[I" ∈ ax_tbl := List.mem_filter.mpr ⟨List.mem_of_getElem? (i := 161) (by decide +kernel), rfl⟩
theorem wd_162 : Cond.fieldLink "ShadowTailor$Sightings" (15 : Nat) "ShadowTailor$Sightings" "cell" "[I" ∈ ax_tbl := List.mem_filter.mpr ⟨List.mem_of_getElem? (i := 162) (by decide +kernel), rfl⟩
theorem wd_163 : Cond.fieldLink "ShadowTailor$Sightings" (18 : Nat) "ShadowTailor$Sightings" "many" "I" ∈ ax_tbl := List.mem_filter.mpr ⟨List.mem_of_getElem? (i := 163) (by decide +kernel), rfl⟩
theorem wd_164 : Cond.fieldLinkNest "ShadowTailor" (95 : Nat) "ShadowTailor$Sightings" "many" "I" "ShadowTailor" ∈ ax_tbl := List.mem_filter.mpr ⟨List.mem_of_getElem? (i := 164) (by decide +kernel), rfl⟩
theorem wd_172 : Cond.classLink "ShadowTailor" (44 : Nat) "ShadowTailor$Cutting" ∈ ax_tbl := List.mem_filter.mpr ⟨List.mem_of_getElem? (i := 172) (by decide +kernel), rfl⟩
theorem wd_173 : Cond.instantiable "ShadowTailor$Cutting" (7 : Nat) ∈ ax_tbl := List.mem_filter.mpr ⟨List.mem_of_getElem? (i := 173) (by decide +kernel), rfl⟩
theorem wd_174 : Cond.methodLinkNest "ShadowTailor" (46 : Nat) ({ cls := "ShadowTailor$Cutting", name := "<init>", desc := "()V" } : MethodName) "ShadowTailor" ∈ ax_tbl := List.mem_filter.mpr ⟨List.mem_of_getElem? (i := 174) (by decide +kernel), rfl⟩
theorem wd_175 : Cond.instanceMethod ({ cls := "ShadowTailor$Cutting", name := "<init>", desc := "()V" } : MethodName) ∈ ax_tbl := List.mem_filter.mpr ⟨List.mem_of_getElem? (i := 175) (by decide +kernel), rfl⟩
theorem wd_176 : Cond.code ({ cls := "ShadowTailor$Cutting", name := "<init>", desc := "()V" } : MethodName) prog_3_method_1_code (1 : Nat) (Option.none : Option FieldType) ∈ ax_tbl := List.mem_filter.mpr ⟨List.mem_of_getElem? (i := 176) (by decide +kernel), rfl⟩
theorem wd_177 : Cond.methodLink "ShadowTailor$Cutting" (3 : Nat) ({ cls := "java/lang/Object", name := "<init>", desc := "()V" } : MethodName) ∈ ax_tbl := List.mem_filter.mpr ⟨List.mem_of_getElem? (i := 177) (by decide +kernel), rfl⟩
theorem wd_178 : Cond.fieldLink "ShadowTailor$Cutting" (9 : Nat) "ShadowTailor$Cutting" "lack" "[I" ∈ ax_tbl := List.mem_filter.mpr ⟨List.mem_of_getElem? (i := 178) (by decide +kernel), rfl⟩
theorem wd_179 : Cond.fieldLink "ShadowTailor$Cutting" (15 : Nat) "ShadowTailor$Cutting" "choice" "[I" ∈ ax_tbl := List.mem_filter.mpr ⟨List.mem_of_getElem? (i := 179) (by decide +kernel), rfl⟩
theorem wd_180 : Cond.fieldLink "ShadowTailor$Cutting" (18 : Nat) "ShadowTailor$Cutting" "best" "[I" ∈ ax_tbl := List.mem_filter.mpr ⟨List.mem_of_getElem? (i := 180) (by decide +kernel), rfl⟩
theorem wd_181 : Cond.fieldLinkNest "ShadowTailor" (231 : Nat) "ShadowTailor$Cutting" "best" "[I" "ShadowTailor" ∈ ax_tbl := List.mem_filter.mpr ⟨List.mem_of_getElem? (i := 181) (by decide +kernel), rfl⟩
theorem wd_182 : Cond.fieldLink "ShadowTailor$Cutting" (21 : Nat) "ShadowTailor$Cutting" "isKnown" "Z" ∈ ax_tbl := List.mem_filter.mpr ⟨List.mem_of_getElem? (i := 182) (by decide +kernel), rfl⟩
theorem wd_183 : Cond.fieldLinkNest "ShadowTailor" (100 : Nat) "ShadowTailor$Cutting" "isKnown" "Z" "ShadowTailor" ∈ ax_tbl := List.mem_filter.mpr ⟨List.mem_of_getElem? (i := 183) (by decide +kernel), rfl⟩
theorem wd_184 : Cond.fieldLink "ShadowTailor$Cutting" (25 : Nat) "ShadowTailor$Cutting" "isFound" "Z" ∈ ax_tbl := List.mem_filter.mpr ⟨List.mem_of_getElem? (i := 184) (by decide +kernel), rfl⟩
theorem wd_185 : Cond.fieldLinkNest "ShadowTailor" (216 : Nat) "ShadowTailor$Cutting" "isFound" "Z" "ShadowTailor" ∈ ax_tbl := List.mem_filter.mpr ⟨List.mem_of_getElem? (i := 185) (by decide +kernel), rfl⟩
theorem wd_186 : Cond.fieldLink "ShadowTailor$Cutting" (44 : Nat) "ShadowTailor$Cutting" "leastUsed" "I" ∈ ax_tbl := List.mem_filter.mpr ⟨List.mem_of_getElem? (i := 186) (by decide +kernel), rfl⟩
theorem wd_187 : Cond.fieldLinkNest "ShadowTailor" (219 : Nat) "ShadowTailor$Cutting" "leastUsed" "I" "ShadowTailor" ∈ ax_tbl := List.mem_filter.mpr ⟨List.mem_of_getElem? (i := 187) (by decide +kernel), rfl⟩
theorem wd_188 : Cond.fieldLink "ShadowTailor$Cutting" (47 : Nat) "ShadowTailor$Cutting" "leastLength" "I" ∈ ax_tbl := List.mem_filter.mpr ⟨List.mem_of_getElem? (i := 188) (by decide +kernel), rfl⟩
theorem wd_189 : Cond.fieldLinkNest "ShadowTailor" (225 : Nat) "ShadowTailor$Cutting" "leastLength" "I" "ShadowTailor" ∈ ax_tbl := List.mem_filter.mpr ⟨List.mem_of_getElem? (i := 189) (by decide +kernel), rfl⟩
theorem wd_205 : Cond.classLink "ShadowTailor" (51 : Nat) "ShadowTailor$Timetable" ∈ ax_tbl := List.mem_filter.mpr ⟨List.mem_of_getElem? (i := 205) (by decide +kernel), rfl⟩
theorem wd_206 : Cond.instantiable "ShadowTailor$Timetable" (6 : Nat) ∈ ax_tbl := List.mem_filter.mpr ⟨List.mem_of_getElem? (i := 206) (by decide +kernel), rfl⟩
theorem wd_207 : Cond.methodLinkNest "ShadowTailor" (53 : Nat) ({ cls := "ShadowTailor$Timetable", name := "<init>", desc := "()V" } : MethodName) "ShadowTailor" ∈ ax_tbl := List.mem_filter.mpr ⟨List.mem_of_getElem? (i := 207) (by decide +kernel), rfl⟩
theorem wd_208 : Cond.instanceMethod ({ cls := "ShadowTailor$Timetable", name := "<init>", desc := "()V" } : MethodName) ∈ ax_tbl := List.mem_filter.mpr ⟨List.mem_of_getElem? (i := 208) (by decide +kernel), rfl⟩
theorem wd_209 : Cond.code ({ cls := "ShadowTailor$Timetable", name := "<init>", desc := "()V" } : MethodName) prog_12_method_1_code (1 : Nat) (Option.none : Option FieldType) ∈ ax_tbl := List.mem_filter.mpr ⟨List.mem_of_getElem? (i := 209) (by decide +kernel), rfl⟩
theorem wd_210 : Cond.methodLink "ShadowTailor$Timetable" (3 : Nat) ({ cls := "java/lang/Object", name := "<init>", desc := "()V" } : MethodName) ∈ ax_tbl := List.mem_filter.mpr ⟨List.mem_of_getElem? (i := 210) (by decide +kernel), rfl⟩
theorem wd_211 : Cond.fieldLink "ShadowTailor$Timetable" (9 : Nat) "ShadowTailor$Timetable" "choice" "[I" ∈ ax_tbl := List.mem_filter.mpr ⟨List.mem_of_getElem? (i := 211) (by decide +kernel), rfl⟩
theorem wd_212 : Cond.fieldLink "ShadowTailor$Timetable" (15 : Nat) "ShadowTailor$Timetable" "best" "[I" ∈ ax_tbl := List.mem_filter.mpr ⟨List.mem_of_getElem? (i := 212) (by decide +kernel), rfl⟩
theorem wd_213 : Cond.fieldLinkNest "ShadowTailor" (244 : Nat) "ShadowTailor$Timetable" "best" "[I" "ShadowTailor" ∈ ax_tbl := List.mem_filter.mpr ⟨List.mem_of_getElem? (i := 213) (by decide +kernel), rfl⟩
theorem wd_214 : Cond.fieldLink "ShadowTailor$Timetable" (18 : Nat) "ShadowTailor$Timetable" "isKnown" "Z" ∈ ax_tbl := List.mem_filter.mpr ⟨List.mem_of_getElem? (i := 214) (by decide +kernel), rfl⟩
theorem wd_215 : Cond.fieldLinkNest "ShadowTailor" (104 : Nat) "ShadowTailor$Timetable" "isKnown" "Z" "ShadowTailor" ∈ ax_tbl := List.mem_filter.mpr ⟨List.mem_of_getElem? (i := 215) (by decide +kernel), rfl⟩
theorem wd_216 : Cond.fieldLink "ShadowTailor$Timetable" (22 : Nat) "ShadowTailor$Timetable" "isFound" "Z" ∈ ax_tbl := List.mem_filter.mpr ⟨List.mem_of_getElem? (i := 216) (by decide +kernel), rfl⟩
theorem wd_217 : Cond.fieldLink "ShadowTailor$Timetable" (29 : Nat) "ShadowTailor$Timetable" "leastLate" "I" ∈ ax_tbl := List.mem_filter.mpr ⟨List.mem_of_getElem? (i := 217) (by decide +kernel), rfl⟩
theorem wd_218 : Cond.fieldLinkNest "ShadowTailor" (238 : Nat) "ShadowTailor$Timetable" "leastLate" "I" "ShadowTailor" ∈ ax_tbl := List.mem_filter.mpr ⟨List.mem_of_getElem? (i := 218) (by decide +kernel), rfl⟩
theorem wd_219 : Cond.fieldLink "ShadowTailor$Timetable" (33 : Nat) "ShadowTailor$Timetable" "leastHours" "I" ∈ ax_tbl := List.mem_filter.mpr ⟨List.mem_of_getElem? (i := 219) (by decide +kernel), rfl⟩
theorem wd_220 : Cond.fieldLinkNest "ShadowTailor" (241 : Nat) "ShadowTailor$Timetable" "leastHours" "I" "ShadowTailor" ∈ ax_tbl := List.mem_filter.mpr ⟨List.mem_of_getElem? (i := 220) (by decide +kernel), rfl⟩
theorem wd_234 : Cond.classLink "ShadowTailor" (58 : Nat) "ShadowTailor$Shop" ∈ ax_tbl := List.mem_filter.mpr ⟨List.mem_of_getElem? (i := 234) (by decide +kernel), rfl⟩
theorem wd_235 : Cond.instantiable "ShadowTailor$Shop" (2 : Nat) ∈ ax_tbl := List.mem_filter.mpr ⟨List.mem_of_getElem? (i := 235) (by decide +kernel), rfl⟩
theorem wd_236 : Cond.methodLinkNest "ShadowTailor" (60 : Nat) ({ cls := "ShadowTailor$Shop", name := "<init>", desc := "()V" } : MethodName) "ShadowTailor" ∈ ax_tbl := List.mem_filter.mpr ⟨List.mem_of_getElem? (i := 236) (by decide +kernel), rfl⟩
theorem wd_237 : Cond.instanceMethod ({ cls := "ShadowTailor$Shop", name := "<init>", desc := "()V" } : MethodName) ∈ ax_tbl := List.mem_filter.mpr ⟨List.mem_of_getElem? (i := 237) (by decide +kernel), rfl⟩
theorem wd_238 : Cond.code ({ cls := "ShadowTailor$Shop", name := "<init>", desc := "()V" } : MethodName) prog_5_method_1_code (1 : Nat) (Option.none : Option FieldType) ∈ ax_tbl := List.mem_filter.mpr ⟨List.mem_of_getElem? (i := 238) (by decide +kernel), rfl⟩
theorem wd_239 : Cond.methodLink "ShadowTailor$Shop" (1 : Nat) ({ cls := "java/lang/Object", name := "<init>", desc := "()V" } : MethodName) ∈ ax_tbl := List.mem_filter.mpr ⟨List.mem_of_getElem? (i := 239) (by decide +kernel), rfl⟩
theorem wd_240 : Cond.classLink "ShadowTailor$Shop" (7 : Nat) "ShadowTailor$Street" ∈ ax_tbl := List.mem_filter.mpr ⟨List.mem_of_getElem? (i := 240) (by decide +kernel), rfl⟩
theorem wd_241 : Cond.instantiable "ShadowTailor$Street" (10 : Nat) ∈ ax_tbl := List.mem_filter.mpr ⟨List.mem_of_getElem? (i := 241) (by decide +kernel), rfl⟩
theorem wd_242 : Cond.methodLinkNest "ShadowTailor$Shop" (9 : Nat) ({ cls := "ShadowTailor$Street", name := "<init>", desc := "()V" } : MethodName) "ShadowTailor" ∈ ax_tbl := List.mem_filter.mpr ⟨List.mem_of_getElem? (i := 242) (by decide +kernel), rfl⟩
theorem wd_243 : Cond.instanceMethod ({ cls := "ShadowTailor$Street", name := "<init>", desc := "()V" } : MethodName) ∈ ax_tbl := List.mem_filter.mpr ⟨List.mem_of_getElem? (i := 243) (by decide +kernel), rfl⟩
theorem wd_244 : Cond.code ({ cls := "ShadowTailor$Street", name := "<init>", desc := "()V" } : MethodName) prog_9_method_1_code (1 : Nat) (Option.none : Option FieldType) ∈ ax_tbl := List.mem_filter.mpr ⟨List.mem_of_getElem? (i := 244) (by decide +kernel), rfl⟩
theorem wd_245 : Cond.methodLink "ShadowTailor$Street" (3 : Nat) ({ cls := "java/lang/Object", name := "<init>", desc := "()V" } : MethodName) ∈ ax_tbl := List.mem_filter.mpr ⟨List.mem_of_getElem? (i := 245) (by decide +kernel), rfl⟩
theorem wd_246 : Cond.classLink "ShadowTailor$Street" (21 : Nat) "ShadowTailor$State" ∈ ax_tbl := List.mem_filter.mpr ⟨List.mem_of_getElem? (i := 246) (by decide +kernel), rfl⟩
theorem wd_247 : Cond.methodLinkNest "ShadowTailor$Street" (23 : Nat) ({ cls := "ShadowTailor$State", name := "<init>", desc := "()V" } : MethodName) "ShadowTailor" ∈ ax_tbl := List.mem_filter.mpr ⟨List.mem_of_getElem? (i := 247) (by decide +kernel), rfl⟩
theorem wd_248 : Cond.fieldLink "ShadowTailor$Street" (9 : Nat) "ShadowTailor$Street" "home" "[I" ∈ ax_tbl := List.mem_filter.mpr ⟨List.mem_of_getElem? (i := 248) (by decide +kernel), rfl⟩
theorem wd_249 : Cond.fieldLink "ShadowTailor$Street" (15 : Nat) "ShadowTailor$Street" "height" "[I" ∈ ax_tbl := List.mem_filter.mpr ⟨List.mem_of_getElem? (i := 249) (by decide +kernel), rfl⟩
theorem wd_250 : Cond.fieldLinkNest "ShadowTailor" (109 : Nat) "ShadowTailor$Street" "height" "[I" "ShadowTailor" ∈ ax_tbl := List.mem_filter.mpr ⟨List.mem_of_getElem? (i := 250) (by decide +kernel), rfl⟩
theorem wd_251 : Cond.fieldLink "ShadowTailor$Street" (18 : Nat) "ShadowTailor$Street" "kind" "[I" ∈ ax_tbl := List.mem_filter.mpr ⟨List.mem_of_getElem? (i := 251) (by decide +kernel), rfl⟩
theorem wd_252 : Cond.fieldLinkNest "ShadowTailor" (113 : Nat) "ShadowTailor$Street" "kind" "[I" "ShadowTailor" ∈ ax_tbl := List.mem_filter.mpr ⟨List.mem_of_getElem? (i := 252) (by decide +kernel), rfl⟩
theorem wd_253 : Cond.fieldLink "ShadowTailor$Street" (24 : Nat) "ShadowTailor$Street" "state" "LShadowTailor$State;" ∈ ax_tbl := List.mem_filter.mpr ⟨List.mem_of_getElem? (i := 253) (by decide +kernel), rfl⟩
theorem wd_254 : Cond.fieldLinkNest "ShadowTailor" (116 : Nat) "ShadowTailor$Street" "state" "LShadowTailor$State;" "ShadowTailor" ∈ ax_tbl := List.mem_filter.mpr ⟨List.mem_of_getElem? (i := 254) (by decide +kernel), rfl⟩
theorem wd_255 : Cond.fieldLinkNest "ShadowTailor$TextReader" (70 : Nat) "ShadowTailor$Street" "state" "LShadowTailor$State;" "ShadowTailor" ∈ ax_tbl := List.mem_filter.mpr ⟨List.mem_of_getElem? (i := 255) (by decide +kernel), rfl⟩
theorem wd_256 : Cond.fieldLink "ShadowTailor$Street" (28 : Nat) "ShadowTailor$Street" "lawFor" "[I" ∈ ax_tbl := List.mem_filter.mpr ⟨List.mem_of_getElem? (i := 256) (by decide +kernel), rfl⟩
theorem wd_257 : Cond.fieldLink "ShadowTailor$Street" (31 : Nat) "ShadowTailor$Street" "lawHour" "[I" ∈ ax_tbl := List.mem_filter.mpr ⟨List.mem_of_getElem? (i := 257) (by decide +kernel), rfl⟩
theorem wd_258 : Cond.fieldLink "ShadowTailor$Street" (34 : Nat) "ShadowTailor$Street" "lawLength" "[I" ∈ ax_tbl := List.mem_filter.mpr ⟨List.mem_of_getElem? (i := 258) (by decide +kernel), rfl⟩
theorem wd_259 : Cond.fieldLink "ShadowTailor$Street" (37 : Nat) "ShadowTailor$Street" "cells" "[I" ∈ ax_tbl := List.mem_filter.mpr ⟨List.mem_of_getElem? (i := 259) (by decide +kernel), rfl⟩
theorem wd_260 : Cond.fieldLink "ShadowTailor$Street" (40 : Nat) "ShadowTailor$Street" "persons" "I" ∈ ax_tbl := List.mem_filter.mpr ⟨List.mem_of_getElem? (i := 260) (by decide +kernel), rfl⟩
theorem wd_261 : Cond.fieldLinkNest "ShadowTailor$Sightings" (22 : Nat) "ShadowTailor$Street" "persons" "I" "ShadowTailor" ∈ ax_tbl := List.mem_filter.mpr ⟨List.mem_of_getElem? (i := 261) (by decide +kernel), rfl⟩
theorem wd_262 : Cond.fieldLinkNest "ShadowTailor" (90 : Nat) "ShadowTailor$Street" "persons" "I" "ShadowTailor" ∈ ax_tbl := List.mem_filter.mpr ⟨List.mem_of_getElem? (i := 262) (by decide +kernel), rfl⟩
theorem wd_263 : Cond.fieldLink "ShadowTailor$Street" (44 : Nat) "ShadowTailor$Street" "laws" "I" ∈ ax_tbl := List.mem_filter.mpr ⟨List.mem_of_getElem? (i := 263) (by decide +kernel), rfl⟩
theorem wd_264 : Cond.fieldLinkNest "ShadowTailor" (266 : Nat) "ShadowTailor$Street" "laws" "I" "ShadowTailor" ∈ ax_tbl := List.mem_filter.mpr ⟨List.mem_of_getElem? (i := 264) (by decide +kernel), rfl⟩
theorem wd_286 : Cond.classLink "ShadowTailor$Shop" (16 : Nat) "ShadowTailor$Stock" ∈ ax_tbl := List.mem_filter.mpr ⟨List.mem_of_getElem? (i := 286) (by decide +kernel), rfl⟩
theorem wd_287 : Cond.instantiable "ShadowTailor$Stock" (7 : Nat) ∈ ax_tbl := List.mem_filter.mpr ⟨List.mem_of_getElem? (i := 287) (by decide +kernel), rfl⟩
theorem wd_288 : Cond.methodLinkNest "ShadowTailor$Shop" (18 : Nat) ({ cls := "ShadowTailor$Stock", name := "<init>", desc := "()V" } : MethodName) "ShadowTailor" ∈ ax_tbl := List.mem_filter.mpr ⟨List.mem_of_getElem? (i := 288) (by decide +kernel), rfl⟩
theorem wd_289 : Cond.instanceMethod ({ cls := "ShadowTailor$Stock", name := "<init>", desc := "()V" } : MethodName) ∈ ax_tbl := List.mem_filter.mpr ⟨List.mem_of_getElem? (i := 289) (by decide +kernel), rfl⟩
theorem wd_290 : Cond.code ({ cls := "ShadowTailor$Stock", name := "<init>", desc := "()V" } : MethodName) prog_8_method_1_code (1 : Nat) (Option.none : Option FieldType) ∈ ax_tbl := List.mem_filter.mpr ⟨List.mem_of_getElem? (i := 290) (by decide +kernel), rfl⟩
theorem wd_291 : Cond.methodLink "ShadowTailor$Stock" (3 : Nat) ({ cls := "java/lang/Object", name := "<init>", desc := "()V" } : MethodName) ∈ ax_tbl := List.mem_filter.mpr ⟨List.mem_of_getElem? (i := 291) (by decide +kernel), rfl⟩
theorem wd_292 : Cond.fieldLink "ShadowTailor$Stock" (9 : Nat) "ShadowTailor$Stock" "remnant" "[I" ∈ ax_tbl := List.mem_filter.mpr ⟨List.mem_of_getElem? (i := 292) (by decide +kernel), rfl⟩
theorem wd_293 : Cond.fieldLinkNest "ShadowTailor$Cutting" (62 : Nat) "ShadowTailor$Stock" "remnant" "[I" "ShadowTailor" ∈ ax_tbl := List.mem_filter.mpr ⟨List.mem_of_getElem? (i := 293) (by decide +kernel), rfl⟩
theorem wd_294 : Cond.fieldLink "ShadowTailor$Stock" (15 : Nat) "ShadowTailor$Stock" "order" "[I" ∈ ax_tbl := List.mem_filter.mpr ⟨List.mem_of_getElem? (i := 294) (by decide +kernel), rfl⟩
theorem wd_295 : Cond.fieldLinkNest "ShadowTailor$Cutting" (34 : Nat) "ShadowTailor$Stock" "order" "[I" "ShadowTailor" ∈ ax_tbl := List.mem_filter.mpr ⟨List.mem_of_getElem? (i := 295) (by decide +kernel), rfl⟩
theorem wd_296 : Cond.fieldLink "ShadowTailor$Stock" (18 : Nat) "ShadowTailor$Stock" "fittingHours" "[I" ∈ ax_tbl := List.mem_filter.mpr ⟨List.mem_of_getElem? (i := 296) (by decide +kernel), rfl⟩
theorem wd_297 : Cond.fieldLinkNest "ShadowTailor$Timetable" (45 : Nat) "ShadowTailor$Stock" "fittingHours" "[I" "ShadowTailor" ∈ ax_tbl := List.mem_filter.mpr ⟨List.mem_of_getElem? (i := 297) (by decide +kernel), rfl⟩
theorem wd_298 : Cond.fieldLink "ShadowTailor$Stock" (21 : Nat) "ShadowTailor$Stock" "fittingDue" "[I" ∈ ax_tbl := List.mem_filter.mpr ⟨List.mem_of_getElem? (i := 298) (by decide +kernel), rfl⟩
theorem wd_299 : Cond.fieldLinkNest "ShadowTailor$Timetable" (48 : Nat) "ShadowTailor$Stock" "fittingDue" "[I" "ShadowTailor" ∈ ax_tbl := List.mem_filter.mpr ⟨List.mem_of_getElem? (i := 299) (by decide +kernel), rfl⟩
theorem wd_300 : Cond.fieldLink "ShadowTailor$Stock" (24 : Nat) "ShadowTailor$Stock" "remnants" "I" ∈ ax_tbl := List.mem_filter.mpr ⟨List.mem_of_getElem? (i := 300) (by decide +kernel), rfl⟩
theorem wd_301 : Cond.fieldLinkNest "ShadowTailor$Cutting" (37 : Nat) "ShadowTailor$Stock" "remnants" "I" "ShadowTailor" ∈ ax_tbl := List.mem_filter.mpr ⟨List.mem_of_getElem? (i := 301) (by decide +kernel), rfl⟩
theorem wd_302 : Cond.fieldLinkNest "ShadowTailor" (207 : Nat) "ShadowTailor$Stock" "remnants" "I" "ShadowTailor" ∈ ax_tbl := List.mem_filter.mpr ⟨List.mem_of_getElem? (i := 302) (by decide +kernel), rfl⟩
theorem wd_303 : Cond.fieldLink "ShadowTailor$Stock" (28 : Nat) "ShadowTailor$Stock" "orders" "I" ∈ ax_tbl := List.mem_filter.mpr ⟨List.mem_of_getElem? (i := 303) (by decide +kernel), rfl⟩
theorem wd_304 : Cond.fieldLinkNest "ShadowTailor$Cutting" (28 : Nat) "ShadowTailor$Stock" "orders" "I" "ShadowTailor" ∈ ax_tbl := List.mem_filter.mpr ⟨List.mem_of_getElem? (i := 304) (by decide +kernel), rfl⟩
theorem wd_305 : Cond.fieldLinkNest "ShadowTailor" (222 : Nat) "ShadowTailor$Stock" "orders" "I" "ShadowTailor" ∈ ax_tbl := List.mem_filter.mpr ⟨List.mem_of_getElem? (i := 305) (by decide +kernel), rfl⟩
theorem wd_306 : Cond.fieldLink "ShadowTailor$Stock" (31 : Nat) "ShadowTailor$Stock" "fittings" "I" ∈ ax_tbl := List.mem_filter.mpr ⟨List.mem_of_getElem? (i := 306) (by decide +kernel), rfl⟩
theorem wd_307 : Cond.fieldLinkNest "ShadowTailor$Timetable" (36 : Nat) "ShadowTailor$Stock" "fittings" "I" "ShadowTailor" ∈ ax_tbl := List.mem_filter.mpr ⟨List.mem_of_getElem? (i := 307) (by decide +kernel), rfl⟩
theorem wd_308 : Cond.fieldLinkNest "ShadowTailor" (234 : Nat) "ShadowTailor$Stock" "fittings" "I" "ShadowTailor" ∈ ax_tbl := List.mem_filter.mpr ⟨List.mem_of_getElem? (i := 308) (by decide +kernel), rfl⟩
theorem wd_324 : Cond.fieldLink "ShadowTailor$Shop" (10 : Nat) "ShadowTailor$Shop" "street" "LShadowTailor$Street;" ∈ ax_tbl := List.mem_filter.mpr ⟨List.mem_of_getElem? (i := 324) (by decide +kernel), rfl⟩
theorem wd_325 : Cond.fieldLinkNest "ShadowTailor" (86 : Nat) "ShadowTailor$Shop" "street" "LShadowTailor$Street;" "ShadowTailor" ∈ ax_tbl := List.mem_filter.mpr ⟨List.mem_of_getElem? (i := 325) (by decide +kernel), rfl⟩
theorem wd_326 : Cond.fieldLinkNest "ShadowTailor$TextReader" (46 : Nat) "ShadowTailor$Shop" "street" "LShadowTailor$Street;" "ShadowTailor" ∈ ax_tbl := List.mem_filter.mpr ⟨List.mem_of_getElem? (i := 326) (by decide +kernel), rfl⟩
theorem wd_327 : Cond.fieldLink "ShadowTailor$Shop" (19 : Nat) "ShadowTailor$Shop" "stock" "LShadowTailor$Stock;" ∈ ax_tbl := List.mem_filter.mpr ⟨List.mem_of_getElem? (i := 327) (by decide +kernel), rfl⟩
theorem wd_328 : Cond.fieldLinkNest "ShadowTailor$TextReader" (50 : Nat) "ShadowTailor$Shop" "stock" "LShadowTailor$Stock;" "ShadowTailor" ∈ ax_tbl := List.mem_filter.mpr ⟨List.mem_of_getElem? (i := 328) (by decide +kernel), rfl⟩
theorem wd_329 : Cond.fieldLinkNest "ShadowTailor" (203 : Nat) "ShadowTailor$Shop" "stock" "LShadowTailor$Stock;" "ShadowTailor" ∈ ax_tbl := List.mem_filter.mpr ⟨List.mem_of_getElem? (i := 329) (by decide +kernel), rfl⟩
theorem wd_336 : Cond.methodLink "ShadowTailor" (70 : Nat) ({ cls := "ShadowTailor$Text", name := "put", desc := "(Ljava/lang/String;)V" } : MethodName) ∈ ax_tbl := List.mem_filter.mpr ⟨List.mem_of_getElem? (i := 336) (by decide +kernel), rfl⟩
theorem wd_337 : Cond.instanceMethod ({ cls := "ShadowTailor$Text", name := "put", desc := "(Ljava/lang/String;)V" } : MethodName) ∈ ax_tbl := List.mem_filter.mpr ⟨List.mem_of_getElem? (i := 337) (by decide +kernel), rfl⟩
theorem wd_338 : Cond.selects "ShadowTailor$Text" ({ cls := "ShadowTailor$Text", name := "put", desc := "(Ljava/lang/String;)V" } : MethodName) ({ cls := "ShadowTailor$Text", name := "put", desc := "(Ljava/lang/String;)V" } : MethodName) ∈ ax_tbl := List.mem_filter.mpr ⟨List.mem_of_getElem? (i := 338) (by decide +kernel), rfl⟩
theorem wd_339 : Cond.code ({ cls := "ShadowTailor$Text", name := "put", desc := "(Ljava/lang/String;)V" } : MethodName) prog_10_method_3_code (3 : Nat) (Option.none : Option FieldType) ∈ ax_tbl := List.mem_filter.mpr ⟨List.mem_of_getElem? (i := 339) (by decide +kernel), rfl⟩
theorem wd_340 : Cond.methodLink "ShadowTailor$Text" (19 : Nat) ({ cls := "java/lang/String", name := "length", desc := "()I" } : MethodName) ∈ ax_tbl := List.mem_filter.mpr ⟨List.mem_of_getElem? (i := 340) (by decide +kernel), rfl⟩
theorem wd_341 : Cond.instanceMethod ({ cls := "java/lang/String", name := "length", desc := "()I" } : MethodName) ∈ ax_tbl := List.mem_filter.mpr ⟨List.mem_of_getElem? (i := 341) (by decide +kernel), rfl⟩
theorem wd_342 : Cond.selects "java/lang/String" ({ cls := "java/lang/String", name := "length", desc := "()I" } : MethodName) ({ cls := "java/lang/String", name := "length", desc := "()I" } : MethodName) ∈ ax_tbl := List.mem_filter.mpr ⟨List.mem_of_getElem? (i := 342) (by decide +kernel), rfl⟩
theorem wd_343 : Cond.code ({ cls := "java/lang/String", name := "length", desc := "()I" } : MethodName) prog_17_method_54_code (1 : Nat) (Option.some FieldType.int) ∈ ax_tbl := List.mem_filter.mpr ⟨List.mem_of_getElem? (i := 343) (by decide +kernel), rfl⟩
theorem wd_350 : Cond.methodLink "ShadowTailor$Text" (24 : Nat) ({ cls := "java/lang/String", name := "charAt", desc := "(I)C" } : MethodName) ∈ ax_tbl := List.mem_filter.mpr ⟨List.mem_of_getElem? (i := 350) (by decide +kernel), rfl⟩
theorem wd_351 : Cond.instanceMethod ({ cls := "java/lang/String", name := "charAt", desc := "(I)C" } : MethodName) ∈ ax_tbl := List.mem_filter.mpr ⟨List.mem_of_getElem? (i := 351) (by decide +kernel), rfl⟩
theorem wd_352 : Cond.selects "java/lang/String" ({ cls := "java/lang/String", name := "charAt", desc := "(I)C" } : MethodName) ({ cls := "java/lang/String", name := "charAt", desc := "(I)C" } : MethodName) ∈ ax_tbl := List.mem_filter.mpr ⟨List.mem_of_getElem? (i := 352) (by decide +kernel), rfl⟩
theorem wd_353 : Cond.code ({ cls := "java/lang/String", name := "charAt", desc := "(I)C" } : MethodName) prog_17_method_56_code (2 : Nat) (Option.some FieldType.char) ∈ ax_tbl := List.mem_filter.mpr ⟨List.mem_of_getElem? (i := 353) (by decide +kernel), rfl⟩
theorem wd_388 : Cond.methodLink "ShadowTailor$Text" (28 : Nat) ({ cls := "ShadowTailor$Text", name := "add", desc := "(C)Z" } : MethodName) ∈ ax_tbl := List.mem_filter.mpr ⟨List.mem_of_getElem? (i := 388) (by decide +kernel), rfl⟩
theorem wd_389 : Cond.instanceMethod ({ cls := "ShadowTailor$Text", name := "add", desc := "(C)Z" } : MethodName) ∈ ax_tbl := List.mem_filter.mpr ⟨List.mem_of_getElem? (i := 389) (by decide +kernel), rfl⟩
theorem wd_390 : Cond.selects "ShadowTailor$Text" ({ cls := "ShadowTailor$Text", name := "add", desc := "(C)Z" } : MethodName) ({ cls := "ShadowTailor$Text", name := "add", desc := "(C)Z" } : MethodName) ∈ ax_tbl := List.mem_filter.mpr ⟨List.mem_of_getElem? (i := 390) (by decide +kernel), rfl⟩
theorem wd_391 : Cond.code ({ cls := "ShadowTailor$Text", name := "add", desc := "(C)Z" } : MethodName) prog_10_method_2_code (2 : Nat) (Option.some FieldType.boolean) ∈ ax_tbl := List.mem_filter.mpr ⟨List.mem_of_getElem? (i := 391) (by decide +kernel), rfl⟩
theorem wd_392 : Cond.methodLink "ShadowTailor" (74 : Nat) ({ cls := "ShadowTailor$TextReader", name := "readInto", desc := "(LShadowTailor$Text;LShadowTailor$Shop;)I" } : MethodName) ∈ ax_tbl := List.mem_filter.mpr ⟨List.mem_of_getElem? (i := 392) (by decide +kernel), rfl⟩
theorem wd_393 : Cond.instanceMethod ({ cls := "ShadowTailor$TextReader", name := "readInto", desc := "(LShadowTailor$Text;LShadowTailor$Shop;)I" } : MethodName) ∈ ax_tbl := List.mem_filter.mpr ⟨List.mem_of_getElem? (i := 393) (by decide +kernel), rfl⟩
theorem wd_394 : Cond.selects "ShadowTailor$TextReader" ({ cls := "ShadowTailor$TextReader", name := "readInto", desc := "(LShadowTailor$Text;LShadowTailor$Shop;)I" } : MethodName) ({ cls := "ShadowTailor$TextReader", name := "readInto", desc := "(LShadowTailor$Text;LShadowTailor$Shop;)I" } : MethodName) ∈ ax_tbl := List.mem_filter.mpr ⟨List.mem_of_getElem? (i := 394) (by decide +kernel), rfl⟩
theorem wd_395 : Cond.code ({ cls := "ShadowTailor$TextReader", name := "readInto", desc := "(LShadowTailor$Text;LShadowTailor$Shop;)I" } : MethodName) prog_11_method_2_code (7 : Nat) (Option.some FieldType.int) ∈ ax_tbl := List.mem_filter.mpr ⟨List.mem_of_getElem? (i := 395) (by decide +kernel), rfl⟩
theorem wd_396 : Cond.methodLink "ShadowTailor$TextReader" (15 : Nat) ({ cls := "ShadowTailor$Shop", name := "clear", desc := "()V" } : MethodName) ∈ ax_tbl := List.mem_filter.mpr ⟨List.mem_of_getElem? (i := 396) (by decide +kernel), rfl⟩
theorem wd_397 : Cond.instanceMethod ({ cls := "ShadowTailor$Shop", name := "clear", desc := "()V" } : MethodName) ∈ ax_tbl := List.mem_filter.mpr ⟨List.mem_of_getElem? (i := 397) (by decide +kernel), rfl⟩
theorem wd_398 : Cond.selects "ShadowTailor$Shop" ({ cls := "ShadowTailor$Shop", name := "clear", desc := "()V" } : MethodName) ({ cls := "ShadowTailor$Shop", name := "clear", desc := "()V" } : MethodName) ∈ ax_tbl := List.mem_filter.mpr ⟨List.mem_of_getElem? (i := 398) (by decide +kernel), rfl⟩
theorem wd_399 : Cond.code ({ cls := "ShadowTailor$Shop", name := "clear", desc := "()V" } : MethodName) prog_5_method_2_code (1 : Nat) (Option.none : Option FieldType) ∈ ax_tbl := List.mem_filter.mpr ⟨List.mem_of_getElem? (i := 399) (by decide +kernel), rfl⟩
theorem wd_400 : Cond.methodLink "ShadowTailor$Shop" (23 : Nat) ({ cls := "ShadowTailor$Street", name := "clear", desc := "()V" } : MethodName) ∈ ax_tbl := List.mem_filter.mpr ⟨List.mem_of_getElem? (i := 400) (by decide +kernel), rfl⟩
theorem wd_401 : Cond.instanceMethod ({ cls := "ShadowTailor$Street", name := "clear", desc := "()V" } : MethodName) ∈ ax_tbl := List.mem_filter.mpr ⟨List.mem_of_getElem? (i := 401) (by decide +kernel), rfl⟩
theorem wd_402 : Cond.selects "ShadowTailor$Street" ({ cls := "ShadowTailor$Street", name := "clear", desc := "()V" } : MethodName) ({ cls := "ShadowTailor$Street", name := "clear", desc := "()V" } : MethodName) ∈ ax_tbl := List.mem_filter.mpr ⟨List.mem_of_getElem? (i := 402) (by decide +kernel), rfl⟩
theorem wd_403 : Cond.code ({ cls := "ShadowTailor$Street", name := "clear", desc := "()V" } : MethodName) prog_9_method_2_code (1 : Nat) (Option.none : Option FieldType) ∈ ax_tbl := List.mem_filter.mpr ⟨List.mem_of_getElem? (i := 403) (by decide +kernel), rfl⟩
theorem wd_404 : Cond.methodLink "ShadowTailor$Shop" (26 : Nat) ({ cls := "ShadowTailor$Stock", name := "clear", desc := "()V" } : MethodName) ∈ ax_tbl := List.mem_filter.mpr ⟨List.mem_of_getElem? (i := 404) (by decide +kernel), rfl⟩
theorem wd_405 : Cond.instanceMethod ({ cls := "ShadowTailor$Stock", name := "clear", desc := "()V" } : MethodName) ∈ ax_tbl := List.mem_filter.mpr ⟨List.mem_of_getElem? (i := 405) (by decide +kernel), rfl⟩
theorem wd_406 : Cond.selects "ShadowTailor$Stock" ({ cls := "ShadowTailor$Stock", name := "clear", desc := "()V" } : MethodName) ({ cls := "ShadowTailor$Stock", name := "clear", desc := "()V" } : MethodName) ∈ ax_tbl := List.mem_filter.mpr ⟨List.mem_of_getElem? (i := 406) (by decide +kernel), rfl⟩
theorem wd_407 : Cond.code ({ cls := "ShadowTailor$Stock", name := "clear", desc := "()V" } : MethodName) prog_8_method_2_code (1 : Nat) (Option.none : Option FieldType) ∈ ax_tbl := List.mem_filter.mpr ⟨List.mem_of_getElem? (i := 407) (by decide +kernel), rfl⟩
theorem wd_408 : Cond.methodLink "ShadowTailor$TextReader" (26 : Nat) ({ cls := "ShadowTailor$Text", name := "signAt", desc := "(I)C" } : MethodName) ∈ ax_tbl := List.mem_filter.mpr ⟨List.mem_of_getElem? (i := 408) (by decide +kernel), rfl⟩
theorem wd_409 : Cond.instanceMethod ({ cls := "ShadowTailor$Text", name := "signAt", desc := "(I)C" } : MethodName) ∈ ax_tbl := List.mem_filter.mpr ⟨List.mem_of_getElem? (i := 409) (by decide +kernel), rfl⟩
theorem wd_410 : Cond.selects "ShadowTailor$Text" ({ cls := "ShadowTailor$Text", name := "signAt", desc := "(I)C" } : MethodName) ({ cls := "ShadowTailor$Text", name := "signAt", desc := "(I)C" } : MethodName) ∈ ax_tbl := List.mem_filter.mpr ⟨List.mem_of_getElem? (i := 410) (by decide +kernel), rfl⟩
theorem wd_411 : Cond.code ({ cls := "ShadowTailor$Text", name := "signAt", desc := "(I)C" } : MethodName) prog_10_method_4_code (2 : Nat) (Option.some FieldType.char) ∈ ax_tbl := List.mem_filter.mpr ⟨List.mem_of_getElem? (i := 411) (by decide +kernel), rfl⟩
theorem wd_412 : Cond.methodLink "ShadowTailor$TextReader" (30 : Nat) ({ cls := "ShadowTailor$TextReader", name := "numbersOf", desc := "(C)I" } : MethodName) ∈ ax_tbl := List.mem_filter.mpr ⟨List.mem_of_getElem? (i := 412) (by decide +kernel), rfl⟩
theorem wd_413 : Cond.static ({ cls := "ShadowTailor$TextReader", name := "numbersOf", desc := "(C)I" } : MethodName) ∈ ax_tbl := List.mem_filter.mpr ⟨List.mem_of_getElem? (i := 413) (by decide +kernel), rfl⟩
theorem wd_414 : Cond.code ({ cls := "ShadowTailor$TextReader", name := "numbersOf", desc := "(C)I" } : MethodName) prog_11_method_3_code (1 : Nat) (Option.some FieldType.int) ∈ ax_tbl := List.mem_filter.mpr ⟨List.mem_of_getElem? (i := 414) (by decide +kernel), rfl⟩
theorem wd_415 : Cond.methodLink "ShadowTailor$TextReader" (34 : Nat) ({ cls := "ShadowTailor$TextReader", name := "readNumbers", desc := "(LShadowTailor$Text;II)I" } : MethodName) ∈ ax_tbl := List.mem_filter.mpr ⟨List.mem_of_getElem? (i := 415) (by decide +kernel), rfl⟩
theorem wd_417 : Cond.instanceMethod ({ cls := "ShadowTailor$TextReader", name := "readNumbers", desc := "(LShadowTailor$Text;II)I" } : MethodName) ∈ ax_tbl := List.mem_filter.mpr ⟨List.mem_of_getElem? (i := 417) (by decide +kernel), rfl⟩
theorem wd_418 : Cond.code ({ cls := "ShadowTailor$TextReader", name := "readNumbers", desc := "(LShadowTailor$Text;II)I" } : MethodName) prog_11_method_4_code (8 : Nat) (Option.some FieldType.int) ∈ ax_tbl := List.mem_filter.mpr ⟨List.mem_of_getElem? (i := 418) (by decide +kernel), rfl⟩
theorem wd_419 : Cond.methodLink "ShadowTailor$TextReader" (42 : Nat) ({ cls := "ShadowTailor$TextReader", name := "figureAt", desc := "(LShadowTailor$Text;I)I" } : MethodName) ∈ ax_tbl := List.mem_filter.mpr ⟨List.mem_of_getElem? (i := 419) (by decide +kernel), rfl⟩
theorem wd_420 : Cond.static ({ cls := "ShadowTailor$TextReader", name := "figureAt", desc := "(LShadowTailor$Text;I)I" } : MethodName) ∈ ax_tbl := List.mem_filter.mpr ⟨List.mem_of_getElem? (i := 420) (by decide +kernel), rfl⟩
theorem wd_421 : Cond.code ({ cls := "ShadowTailor$TextReader", name := "figureAt", desc := "(LShadowTailor$Text;I)I" } : MethodName) prog_11_method_5_code (3 : Nat) (Option.some FieldType.int) ∈ ax_tbl := List.mem_filter.mpr ⟨List.mem_of_getElem? (i := 421) (by decide +kernel), rfl⟩
theorem wd_422 : Cond.methodLink "ShadowTailor$TextReader" (38 : Nat) ({ cls := "ShadowTailor$TextReader", name := "addItem", desc := "(LShadowTailor$Shop;C)Z" } : MethodName) ∈ ax_tbl := List.mem_filter.mpr ⟨List.mem_of_getElem? (i := 422) (by decide +kernel), rfl⟩
theorem wd_424 : Cond.instanceMethod ({ cls := "ShadowTailor$TextReader", name := "addItem", desc := "(LShadowTailor$Shop;C)Z" } : MethodName) ∈ ax_tbl := List.mem_filter.mpr ⟨List.mem_of_getElem? (i := 424) (by decide +kernel), rfl⟩
theorem wd_425 : Cond.code ({ cls := "ShadowTailor$TextReader", name := "addItem", desc := "(LShadowTailor$Shop;C)Z" } : MethodName) prog_11_method_6_code (5 : Nat) (Option.some FieldType.boolean) ∈ ax_tbl := List.mem_filter.mpr ⟨List.mem_of_getElem? (i := 425) (by decide +kernel), rfl⟩
theorem wd_426 : Cond.methodLink "ShadowTailor$TextReader" (54 : Nat) ({ cls := "ShadowTailor$Street", name := "addPerson", desc := "(IIII)Z" } : MethodName) ∈ ax_tbl := List.mem_filter.mpr ⟨List.mem_of_getElem? (i := 426) (by decide +kernel), rfl⟩
theorem wd_427 : Cond.instanceMethod ({ cls := "ShadowTailor$Street", name := "addPerson", desc := "(IIII)Z" } : MethodName) ∈ ax_tbl := List.mem_filter.mpr ⟨List.mem_of_getElem? (i := 427) (by decide +kernel), rfl⟩
theorem wd_428 : Cond.selects "ShadowTailor$Street" ({ cls := "ShadowTailor$Street", name := "addPerson", desc := "(IIII)Z" } : MethodName) ({ cls := "ShadowTailor$Street", name := "addPerson", desc := "(IIII)Z" } : MethodName) ∈ ax_tbl := List.mem_filter.mpr ⟨List.mem_of_getElem? (i := 428) (by decide +kernel), rfl⟩
theorem wd_429 : Cond.code ({ cls := "ShadowTailor$Street", name := "addPerson", desc := "(IIII)Z" } : MethodName) prog_9_method_4_code (5 : Nat) (Option.some FieldType.boolean) ∈ ax_tbl := List.mem_filter.mpr ⟨List.mem_of_getElem? (i := 429) (by decide +kernel), rfl⟩
theorem wd_430 : Cond.methodLinkNest "ShadowTailor$Street" (50 : Nat) ({ cls := "ShadowTailor", name := "isCell", desc := "(I)Z" } : MethodName) "ShadowTailor" ∈ ax_tbl := List.mem_filter.mpr ⟨List.mem_of_getElem? (i := 430) (by decide +kernel), rfl⟩
theorem wd_431 : Cond.static ({ cls := "ShadowTailor", name := "isCell", desc := "(I)Z" } : MethodName) ∈ ax_tbl := List.mem_filter.mpr ⟨List.mem_of_getElem? (i := 431) (by decide +kernel), rfl⟩
theorem wd_432 : Cond.code ({ cls := "ShadowTailor", name := "isCell", desc := "(I)Z" } : MethodName) prog_1_method_36_code (1 : Nat) (Option.some FieldType.boolean) ∈ ax_tbl := List.mem_filter.mpr ⟨List.mem_of_getElem? (i := 432) (by decide +kernel), rfl⟩
theorem wd_433 : Cond.methodLinkNest "ShadowTailor$Street" (54 : Nat) ({ cls := "ShadowTailor", name := "isWithin", desc := "(III)Z" } : MethodName) "ShadowTailor" ∈ ax_tbl := List.mem_filter.mpr ⟨List.mem_of_getElem? (i := 433) (by decide +kernel), rfl⟩
theorem wd_434 : Cond.static ({ cls := "ShadowTailor", name := "isWithin", desc := "(III)Z" } : MethodName) ∈ ax_tbl := List.mem_filter.mpr ⟨List.mem_of_getElem? (i := 434) (by decide +kernel), rfl⟩
theorem wd_435 : Cond.code ({ cls := "ShadowTailor", name := "isWithin", desc := "(III)Z" } : MethodName) prog_1_method_37_code (3 : Nat) (Option.some FieldType.boolean) ∈ ax_tbl := List.mem_filter.mpr ⟨List.mem_of_getElem? (i := 435) (by decide +kernel), rfl⟩
theorem wd_436 : Cond.methodLink "ShadowTailor$TextReader" (60 : Nat) ({ cls := "ShadowTailor$Street", name := "hasPerson", desc := "(I)Z" } : MethodName) ∈ ax_tbl := List.mem_filter.mpr ⟨List.mem_of_getElem? (i := 436) (by decide +kernel), rfl⟩
theorem wd_437 : Cond.instanceMethod ({ cls := "ShadowTailor$Street", name := "hasPerson", desc := "(I)Z" } : MethodName) ∈ ax_tbl := List.mem_filter.mpr ⟨List.mem_of_getElem? (i := 437) (by decide +kernel), rfl⟩
theorem wd_438 : Cond.selects "ShadowTailor$Street" ({ cls := "ShadowTailor$Street", name := "hasPerson", desc := "(I)Z" } : MethodName) ({ cls := "ShadowTailor$Street", name := "hasPerson", desc := "(I)Z" } : MethodName) ∈ ax_tbl := List.mem_filter.mpr ⟨List.mem_of_getElem? (i := 438) (by decide +kernel), rfl⟩
theorem wd_439 : Cond.code ({ cls := "ShadowTailor$Street", name := "hasPerson", desc := "(I)Z" } : MethodName) prog_9_method_3_code (2 : Nat) (Option.some FieldType.boolean) ∈ ax_tbl := List.mem_filter.mpr ⟨List.mem_of_getElem? (i := 439) (by decide +kernel), rfl⟩
theorem wd_440 : Cond.methodLinkNest "ShadowTailor$TextReader" (64 : Nat) ({ cls := "ShadowTailor", name := "isHour", desc := "(I)Z" } : MethodName) "ShadowTailor" ∈ ax_tbl := List.mem_filter.mpr ⟨List.mem_of_getElem? (i := 440) (by decide +kernel), rfl⟩
theorem wd_441 : Cond.static ({ cls := "ShadowTailor", name := "isHour", desc := "(I)Z" } : MethodName) ∈ ax_tbl := List.mem_filter.mpr ⟨List.mem_of_getElem? (i := 441) (by decide +kernel), rfl⟩
theorem wd_442 : Cond.code ({ cls := "ShadowTailor", name := "isHour", desc := "(I)Z" } : MethodName) prog_1_method_34_code (1 : Nat) (Option.some FieldType.boolean) ∈ ax_tbl := List.mem_filter.mpr ⟨List.mem_of_getElem? (i := 442) (by decide +kernel), rfl⟩
theorem wd_443 : Cond.methodLinkNest "ShadowTailor$TextReader" (67 : Nat) ({ cls := "ShadowTailor", name := "isCell", desc := "(I)Z" } : MethodName) "ShadowTailor" ∈ ax_tbl := List.mem_filter.mpr ⟨List.mem_of_getElem? (i := 443) (by decide +kernel), rfl⟩
theorem wd_444 : Cond.methodLink "ShadowTailor$TextReader" (74 : Nat) ({ cls := "ShadowTailor$State", name := "addWalk", desc := "(III)Z" } : MethodName) ∈ ax_tbl := List.mem_filter.mpr ⟨List.mem_of_getElem? (i := 444) (by decide +kernel), rfl⟩
theorem wd_445 : Cond.instanceMethod ({ cls := "ShadowTailor$State", name := "addWalk", desc := "(III)Z" } : MethodName) ∈ ax_tbl := List.mem_filter.mpr ⟨List.mem_of_getElem? (i := 445) (by decide +kernel), rfl⟩
theorem wd_446 : Cond.selects "ShadowTailor$State" ({ cls := "ShadowTailor$State", name := "addWalk", desc := "(III)Z" } : MethodName) ({ cls := "ShadowTailor$State", name := "addWalk", desc := "(III)Z" } : MethodName) ∈ ax_tbl := List.mem_filter.mpr ⟨List.mem_of_getElem? (i := 446) (by decide +kernel), rfl⟩
theorem wd_447 : Cond.code ({ cls := "ShadowTailor$State", name := "addWalk", desc := "(III)Z" } : MethodName) prog_7_method_2_code (4 : Nat) (Option.some FieldType.boolean) ∈ ax_tbl := List.mem_filter.mpr ⟨List.mem_of_getElem? (i := 447) (by decide +kernel), rfl⟩
theorem wd_448 : Cond.methodLink "ShadowTailor$TextReader" (80 : Nat) ({ cls := "ShadowTailor$Street", name := "addLaw", desc := "(III)Z" } : MethodName) ∈ ax_tbl := List.mem_filter.mpr ⟨List.mem_of_getElem? (i := 448) (by decide +kernel), rfl⟩
theorem wd_449 : Cond.instanceMethod ({ cls := "ShadowTailor$Street", name := "addLaw", desc := "(III)Z" } : MethodName) ∈ ax_tbl := List.mem_filter.mpr ⟨List.mem_of_getElem? (i := 449) (by decide +kernel), rfl⟩
theorem wd_450 : Cond.selects "ShadowTailor$Street" ({ cls := "ShadowTailor$Street", name := "addLaw", desc := "(III)Z" } : MethodName) ({ cls := "ShadowTailor$Street", name := "addLaw", desc := "(III)Z" } : MethodName) ∈ ax_tbl := List.mem_filter.mpr ⟨List.mem_of_getElem? (i := 450) (by decide +kernel), rfl⟩
theorem wd_451 : Cond.code ({ cls := "ShadowTailor$Street", name := "addLaw", desc := "(III)Z" } : MethodName) prog_9_method_5_code (4 : Nat) (Option.some FieldType.boolean) ∈ ax_tbl := List.mem_filter.mpr ⟨List.mem_of_getElem? (i := 451) (by decide +kernel), rfl⟩
theorem wd_452 : Cond.methodLink "ShadowTailor$Street" (61 : Nat) ({ cls := "ShadowTailor$Street", name := "hasPerson", desc := "(I)Z" } : MethodName) ∈ ax_tbl := List.mem_filter.mpr ⟨List.mem_of_getElem? (i := 452) (by decide +kernel), rfl⟩
theorem wd_453 : Cond.methodLinkNest "ShadowTailor$Street" (64 : Nat) ({ cls := "ShadowTailor", name := "isHour", desc := "(I)Z" } : MethodName) "ShadowTailor" ∈ ax_tbl := List.mem_filter.mpr ⟨List.mem_of_getElem? (i := 453) (by decide +kernel), rfl⟩
theorem wd_454 : Cond.methodLink "ShadowTailor$TextReader" (83 : Nat) ({ cls := "ShadowTailor$Stock", name := "addRemnant", desc := "(I)Z" } : MethodName) ∈ ax_tbl := List.mem_filter.mpr ⟨List.mem_of_getElem? (i := 454) (by decide +kernel), rfl⟩
theorem wd_455 : Cond.instanceMethod ({ cls := "ShadowTailor$Stock", name := "addRemnant", desc := "(I)Z" } : MethodName) ∈ ax_tbl := List.mem_filter.mpr ⟨List.mem_of_getElem? (i := 455) (by decide +kernel), rfl⟩
theorem wd_456 : Cond.selects "ShadowTailor$Stock" ({ cls := "ShadowTailor$Stock", name := "addRemnant", desc := "(I)Z" } : MethodName) ({ cls := "ShadowTailor$Stock", name := "addRemnant", desc := "(I)Z" } : MethodName) ∈ ax_tbl := List.mem_filter.mpr ⟨List.mem_of_getElem? (i := 456) (by decide +kernel), rfl⟩
theorem wd_457 : Cond.code ({ cls := "ShadowTailor$Stock", name := "addRemnant", desc := "(I)Z" } : MethodName) prog_8_method_3_code (2 : Nat) (Option.some FieldType.boolean) ∈ ax_tbl := List.mem_filter.mpr ⟨List.mem_of_getElem? (i := 457) (by decide +kernel), rfl⟩
theorem wd_458 : Cond.methodLinkNest "ShadowTailor$Stock" (34 : Nat) ({ cls := "ShadowTailor", name := "isWithin", desc := "(III)Z" } : MethodName) "ShadowTailor" ∈ ax_tbl := List.mem_filter.mpr ⟨List.mem_of_getElem? (i := 458) (by decide +kernel), rfl⟩
theorem wd_459 : Cond.methodLink "ShadowTailor$TextReader" (88 : Nat) ({ cls := "ShadowTailor$Stock", name := "addOrder", desc := "(I)Z" } : MethodName) ∈ ax_tbl := List.mem_filter.mpr ⟨List.mem_of_getElem? (i := 459) (by decide +kernel), rfl⟩
theorem wd_460 : Cond.instanceMethod ({ cls := "ShadowTailor$Stock", name := "addOrder", desc := "(I)Z" } : MethodName) ∈ ax_tbl := List.mem_filter.mpr ⟨List.mem_of_getElem? (i := 460) (by decide +kernel), rfl⟩
theorem wd_461 : Cond.selects "ShadowTailor$Stock" ({ cls := "ShadowTailor$Stock", name := "addOrder", desc := "(I)Z" } : MethodName) ({ cls := "ShadowTailor$Stock", name := "addOrder", desc := "(I)Z" } : MethodName) ∈ ax_tbl := List.mem_filter.mpr ⟨List.mem_of_getElem? (i := 461) (by decide +kernel), rfl⟩
theorem wd_462 : Cond.code ({ cls := "ShadowTailor$Stock", name := "addOrder", desc := "(I)Z" } : MethodName) prog_8_method_4_code (2 : Nat) (Option.some FieldType.boolean) ∈ ax_tbl := List.mem_filter.mpr ⟨List.mem_of_getElem? (i := 462) (by decide +kernel), rfl⟩
theorem wd_463 : Cond.methodLink "ShadowTailor$TextReader" (91 : Nat) ({ cls := "ShadowTailor$Stock", name := "addFitting", desc := "(II)Z" } : MethodName) ∈ ax_tbl := List.mem_filter.mpr ⟨List.mem_of_getElem? (i := 463) (by decide +kernel), rfl⟩
theorem wd_464 : Cond.instanceMethod ({ cls := "ShadowTailor$Stock", name := "addFitting", desc := "(II)Z" } : MethodName) ∈ ax_tbl := List.mem_filter.mpr ⟨List.mem_of_getElem? (i := 464) (by decide +kernel), rfl⟩
theorem wd_465 : Cond.selects "ShadowTailor$Stock" ({ cls := "ShadowTailor$Stock", name := "addFitting", desc := "(II)Z" } : MethodName) ({ cls := "ShadowTailor$Stock", name := "addFitting", desc := "(II)Z" } : MethodName) ∈ ax_tbl := List.mem_filter.mpr ⟨List.mem_of_getElem? (i := 465) (by decide +kernel), rfl⟩
theorem wd_466 : Cond.code ({ cls := "ShadowTailor$Stock", name := "addFitting", desc := "(II)Z" } : MethodName) prog_8_method_5_code (3 : Nat) (Option.some FieldType.boolean) ∈ ax_tbl := List.mem_filter.mpr ⟨List.mem_of_getElem? (i := 466) (by decide +kernel), rfl⟩
theorem wd_467 : Cond.fieldLink "ShadowTailor" (10 : Nat) "ShadowTailor" "text" "LShadowTailor$Text;" ∈ ax_tbl := List.mem_filter.mpr ⟨List.mem_of_getElem? (i := 467) (by decide +kernel), rfl⟩
theorem wd_468 : Cond.fieldLink "ShadowTailor" (19 : Nat) "ShadowTailor" "reader" "LShadowTailor$TextReader;" ∈ ax_tbl := List.mem_filter.mpr ⟨List.mem_of_getElem? (i := 468) (by decide +kernel), rfl⟩
theorem wd_469 : Cond.fieldLink "ShadowTailor" (26 : Nat) "ShadowTailor" "changes" "LShadowTailor$Changes;" ∈ ax_tbl := List.mem_filter.mpr ⟨List.mem_of_getElem? (i := 469) (by decide +kernel), rfl⟩
theorem wd_470 : Cond.fieldLink "ShadowTailor" (33 : Nat) "ShadowTailor" "kept" "LShadowTailor$Kept;" ∈ ax_tbl := List.mem_filter.mpr ⟨List.mem_of_getElem? (i := 470) (by decide +kernel), rfl⟩
theorem wd_471 : Cond.fieldLink "ShadowTailor" (40 : Nat) "ShadowTailor" "sightings" "LShadowTailor$Sightings;" ∈ ax_tbl := List.mem_filter.mpr ⟨List.mem_of_getElem? (i := 471) (by decide +kernel), rfl⟩
theorem wd_472 : Cond.fieldLink "ShadowTailor" (47 : Nat) "ShadowTailor" "cutting" "LShadowTailor$Cutting;" ∈ ax_tbl := List.mem_filter.mpr ⟨List.mem_of_getElem? (i := 472) (by decide +kernel), rfl⟩
theorem wd_473 : Cond.fieldLink "ShadowTailor" (54 : Nat) "ShadowTailor" "timetable" "LShadowTailor$Timetable;" ∈ ax_tbl := List.mem_filter.mpr ⟨List.mem_of_getElem? (i := 473) (by decide +kernel), rfl⟩
theorem wd_474 : Cond.fieldLink "ShadowTailor" (61 : Nat) "ShadowTailor" "shop" "LShadowTailor$Shop;" ∈ ax_tbl := List.mem_filter.mpr ⟨List.mem_of_getElem? (i := 474) (by decide +kernel), rfl⟩
theorem wd_475 : Cond.fieldLink "ShadowTailor" (65 : Nat) "ShadowTailor" "draft" "LShadowTailor$Shop;" ∈ ax_tbl := List.mem_filter.mpr ⟨List.mem_of_getElem? (i := 475) (by decide +kernel), rfl⟩
theorem wd_496 : Cond.methodLink "ShadowTailorLaw" (13 : Nat) ({ cls := "ShadowTailor", name := "write", desc := "(I)I" } : MethodName) ∈ ax_tbl := List.mem_filter.mpr ⟨List.mem_of_getElem? (i := 496) (by decide +kernel), rfl⟩
theorem wd_497 : Cond.instanceMethod ({ cls := "ShadowTailor", name := "write", desc := "(I)I" } : MethodName) ∈ ax_tbl := List.mem_filter.mpr ⟨List.mem_of_getElem? (i := 497) (by decide +kernel), rfl⟩
theorem wd_498 : Cond.selects "ShadowTailor" ({ cls := "ShadowTailor", name := "write", desc := "(I)I" } : MethodName) ({ cls := "ShadowTailor", name := "write", desc := "(I)I" } : MethodName) ∈ ax_tbl := List.mem_filter.mpr ⟨List.mem_of_getElem? (i := 498) (by decide +kernel), rfl⟩
theorem wd_499 : Cond.code ({ cls := "ShadowTailor", name := "write", desc := "(I)I" } : MethodName) prog_1_method_2_code (2 : Nat) (Option.some FieldType.int) ∈ ax_tbl := List.mem_filter.mpr ⟨List.mem_of_getElem? (i := 499) (by decide +kernel), rfl⟩
theorem wd_500 : Cond.methodLink "ShadowTailor" (82 : Nat) ({ cls := "ShadowTailor$Text", name := "add", desc := "(C)Z" } : MethodName) ∈ ax_tbl := List.mem_filter.mpr ⟨List.mem_of_getElem? (i := 500) (by decide +kernel), rfl⟩
theorem wd_501 : Cond.methodLink "ShadowTailorLaw" (18 : Nat) ({ cls := "ShadowTailor", name := "wipe", desc := "()I" } : MethodName) ∈ ax_tbl := List.mem_filter.mpr ⟨List.mem_of_getElem? (i := 501) (by decide +kernel), rfl⟩
theorem wd_502 : Cond.instanceMethod ({ cls := "ShadowTailor", name := "wipe", desc := "()I" } : MethodName) ∈ ax_tbl := List.mem_filter.mpr ⟨List.mem_of_getElem? (i := 502) (by decide +kernel), rfl⟩
theorem wd_503 : Cond.selects "ShadowTailor" ({ cls := "ShadowTailor", name := "wipe", desc := "()I" } : MethodName) ({ cls := "ShadowTailor", name := "wipe", desc := "()I" } : MethodName) ∈ ax_tbl := List.mem_filter.mpr ⟨List.mem_of_getElem? (i := 503) (by decide +kernel), rfl⟩
theorem wd_504 : Cond.code ({ cls := "ShadowTailor", name := "wipe", desc := "()I" } : MethodName) prog_1_method_3_code (2 : Nat) (Option.some FieldType.int) ∈ ax_tbl := List.mem_filter.mpr ⟨List.mem_of_getElem? (i := 504) (by decide +kernel), rfl⟩
theorem wd_505 : Cond.methodLink "ShadowTailorLaw" (23 : Nat) ({ cls := "ShadowTailor", name := "fault", desc := "()I" } : MethodName) ∈ ax_tbl := List.mem_filter.mpr ⟨List.mem_of_getElem? (i := 505) (by decide +kernel), rfl⟩
theorem wd_506 : Cond.instanceMethod ({ cls := "ShadowTailor", name := "fault", desc := "()I" } : MethodName) ∈ ax_tbl := List.mem_filter.mpr ⟨List.mem_of_getElem? (i := 506) (by decide +kernel), rfl⟩
theorem wd_507 : Cond.selects "ShadowTailor" ({ cls := "ShadowTailor", name := "fault", desc := "()I" } : MethodName) ({ cls := "ShadowTailor", name := "fault", desc := "()I" } : MethodName) ∈ ax_tbl := List.mem_filter.mpr ⟨List.mem_of_getElem? (i := 507) (by decide +kernel), rfl⟩
theorem wd_508 : Cond.code ({ cls := "ShadowTailor", name := "fault", desc := "()I" } : MethodName) prog_1_method_4_code (1 : Nat) (Option.some FieldType.int) ∈ ax_tbl := List.mem_filter.mpr ⟨List.mem_of_getElem? (i := 508) (by decide +kernel), rfl⟩
theorem wd_509 : Cond.methodLink "ShadowTailorLaw" (27 : Nat) ({ cls := "ShadowTailor", name := "lay", desc := "()I" } : MethodName) ∈ ax_tbl := List.mem_filter.mpr ⟨List.mem_of_getElem? (i := 509) (by decide +kernel), rfl⟩
theorem wd_510 : Cond.instanceMethod ({ cls := "ShadowTailor", name := "lay", desc := "()I" } : MethodName) ∈ ax_tbl := List.mem_filter.mpr ⟨List.mem_of_getElem? (i := 510) (by decide +kernel), rfl⟩
theorem wd_511 : Cond.selects "ShadowTailor" ({ cls := "ShadowTailor", name := "lay", desc := "()I" } : MethodName) ({ cls := "ShadowTailor", name := "lay", desc := "()I" } : MethodName) ∈ ax_tbl := List.mem_filter.mpr ⟨List.mem_of_getElem? (i := 511) (by decide +kernel), rfl⟩
theorem wd_512 : Cond.code ({ cls := "ShadowTailor", name := "lay", desc := "()I" } : MethodName) prog_1_method_5_code (2 : Nat) (Option.some FieldType.int) ∈ ax_tbl := List.mem_filter.mpr ⟨List.mem_of_getElem? (i := 512) (by decide +kernel), rfl⟩
theorem wd_513 : Cond.methodLink "ShadowTailorLaw" (31 : Nat) ({ cls := "ShadowTailor", name := "person", desc := "(II)I" } : MethodName) ∈ ax_tbl := List.mem_filter.mpr ⟨List.mem_of_getElem? (i := 513) (by decide +kernel), rfl⟩
theorem wd_514 : Cond.instanceMethod ({ cls := "ShadowTailor", name := "person", desc := "(II)I" } : MethodName) ∈ ax_tbl := List.mem_filter.mpr ⟨List.mem_of_getElem? (i := 514) (by decide +kernel), rfl⟩
theorem wd_515 : Cond.selects "ShadowTailor" ({ cls := "ShadowTailor", name := "person", desc := "(II)I" } : MethodName) ({ cls := "ShadowTailor", name := "person", desc := "(II)I" } : MethodName) ∈ ax_tbl := List.mem_filter.mpr ⟨List.mem_of_getElem? (i := 515) (by decide +kernel), rfl⟩
theorem wd_516 : Cond.code ({ cls := "ShadowTailor", name := "person", desc := "(II)I" } : MethodName) prog_1_method_6_code (3 : Nat) (Option.some FieldType.int) ∈ ax_tbl := List.mem_filter.mpr ⟨List.mem_of_getElem? (i := 516) (by decide +kernel), rfl⟩
theorem wd_517 : Cond.methodLink "ShadowTailor" (105 : Nat) ({ cls := "ShadowTailor", name := "isPerson", desc := "(I)Z" } : MethodName) ∈ ax_tbl := List.mem_filter.mpr ⟨List.mem_of_getElem? (i := 517) (by decide +kernel), rfl⟩
theorem wd_519 : Cond.instanceMethod ({ cls := "ShadowTailor", name := "isPerson", desc := "(I)Z" } : MethodName) ∈ ax_tbl := List.mem_filter.mpr ⟨List.mem_of_getElem? (i := 519) (by decide +kernel), rfl⟩
theorem wd_520 : Cond.code ({ cls := "ShadowTailor", name := "isPerson", desc := "(I)Z" } : MethodName) prog_1_method_32_code (2 : Nat) (Option.some FieldType.boolean) ∈ ax_tbl := List.mem_filter.mpr ⟨List.mem_of_getElem? (i := 520) (by decide +kernel), rfl⟩
theorem wd_521 : Cond.methodLink "ShadowTailorLaw" (36 : Nat) ({ cls := "ShadowTailor", name := "where", desc := "(II)I" } : MethodName) ∈ ax_tbl := List.mem_filter.mpr ⟨List.mem_of_getElem? (i := 521) (by decide +kernel), rfl⟩
theorem wd_522 : Cond.instanceMethod ({ cls := "ShadowTailor", name := "where", desc := "(II)I" } : MethodName) ∈ ax_tbl := List.mem_filter.mpr ⟨List.mem_of_getElem? (i := 522) (by decide +kernel), rfl⟩
theorem wd_523 : Cond.selects "ShadowTailor" ({ cls := "ShadowTailor", name := "where", desc := "(II)I" } : MethodName) ({ cls := "ShadowTailor", name := "where", desc := "(II)I" } : MethodName) ∈ ax_tbl := List.mem_filter.mpr ⟨List.mem_of_getElem? (i := 523) (by decide +kernel), rfl⟩
theorem wd_524 : Cond.code ({ cls := "ShadowTailor", name := "where", desc := "(II)I" } : MethodName) prog_1_method_7_code (3 : Nat) (Option.some FieldType.int) ∈ ax_tbl := List.mem_filter.mpr ⟨List.mem_of_getElem? (i := 524) (by decide +kernel), rfl⟩
theorem wd_525 : Cond.methodLink "ShadowTailor" (125 : Nat) ({ cls := "ShadowTailor", name := "isHour", desc := "(I)Z" } : MethodName) ∈ ax_tbl := List.mem_filter.mpr ⟨List.mem_of_getElem? (i := 525) (by decide +kernel), rfl⟩
theorem wd_526 : Cond.methodLink "ShadowTailor" (128 : Nat) ({ cls := "ShadowTailor$Street", name := "cellOf", desc := "(II)I" } : MethodName) ∈ ax_tbl := List.mem_filter.mpr ⟨List.mem_of_getElem? (i := 526) (by decide +kernel), rfl⟩
theorem wd_527 : Cond.instanceMethod ({ cls := "ShadowTailor$Street", name := "cellOf", desc := "(II)I" } : MethodName) ∈ ax_tbl := List.mem_filter.mpr ⟨List.mem_of_getElem? (i := 527) (by decide +kernel), rfl⟩
theorem wd_528 : Cond.selects "ShadowTailor$Street" ({ cls := "ShadowTailor$Street", name := "cellOf", desc := "(II)I" } : MethodName) ({ cls := "ShadowTailor$Street", name := "cellOf", desc := "(II)I" } : MethodName) ∈ ax_tbl := List.mem_filter.mpr ⟨List.mem_of_getElem? (i := 528) (by decide +kernel), rfl⟩
theorem wd_529 : Cond.code ({ cls := "ShadowTailor$Street", name := "cellOf", desc := "(II)I" } : MethodName) prog_9_method_6_code (3 : Nat) (Option.some FieldType.int) ∈ ax_tbl := List.mem_filter.mpr ⟨List.mem_of_getElem? (i := 529) (by decide +kernel), rfl⟩
theorem wd_530 : Cond.methodLink "ShadowTailor$Street" (67 : Nat) ({ cls := "ShadowTailor$State", name := "cellAfterWalks", desc := "(III)I" } : MethodName) ∈ ax_tbl := List.mem_filter.mpr ⟨List.mem_of_getElem? (i := 530) (by decide +kernel), rfl⟩
theorem wd_531 : Cond.instanceMethod ({ cls := "ShadowTailor$State", name := "cellAfterWalks", desc := "(III)I" } : MethodName) ∈ ax_tbl := List.mem_filter.mpr ⟨List.mem_of_getElem? (i := 531) (by decide +kernel), rfl⟩
theorem wd_532 : Cond.selects "ShadowTailor$State" ({ cls := "ShadowTailor$State", name := "cellAfterWalks", desc := "(III)I" } : MethodName) ({ cls := "ShadowTailor$State", name := "cellAfterWalks", desc := "(III)I" } : MethodName) ∈ ax_tbl := List.mem_filter.mpr ⟨List.mem_of_getElem? (i := 532) (by decide +kernel), rfl⟩
theorem wd_533 : Cond.code ({ cls := "ShadowTailor$State", name := "cellAfterWalks", desc := "(III)I" } : MethodName) prog_7_method_3_code (7 : Nat) (Option.some FieldType.int) ∈ ax_tbl := List.mem_filter.mpr ⟨List.mem_of_getElem? (i := 533) (by decide +kernel), rfl⟩
theorem wd_534 : Cond.methodLink "ShadowTailorLaw" (40 : Nat) ({ cls := "ShadowTailor", name := "shadow", desc := "(III)I" } : MethodName) ∈ ax_tbl := List.mem_filter.mpr ⟨List.mem_of_getElem? (i := 534) (by decide +kernel), rfl⟩
theorem wd_535 : Cond.instanceMethod ({ cls := "ShadowTailor", name := "shadow", desc := "(III)I" } : MethodName) ∈ ax_tbl := List.mem_filter.mpr ⟨List.mem_of_getElem? (i := 535) (by decide +kernel), rfl⟩
theorem wd_536 : Cond.selects "ShadowTailor" ({ cls := "ShadowTailor", name := "shadow", desc := "(III)I" } : MethodName) ({ cls := "ShadowTailor", name := "shadow", desc := "(III)I" } : MethodName) ∈ ax_tbl := List.mem_filter.mpr ⟨List.mem_of_getElem? (i := 536) (by decide +kernel), rfl⟩
theorem wd_537 : Cond.code ({ cls := "ShadowTailor", name := "shadow", desc := "(III)I" } : MethodName) prog_1_method_8_code (5 : Nat) (Option.some FieldType.int) ∈ ax_tbl := List.mem_filter.mpr ⟨List.mem_of_getElem? (i := 537) (by decide +kernel), rfl⟩
theorem wd_538 : Cond.methodLink "ShadowTailor" (132 : Nat) ({ cls := "ShadowTailor$Street", name := "lengthOf", desc := "(II)I" } : MethodName) ∈ ax_tbl := List.mem_filter.mpr ⟨List.mem_of_getElem? (i := 538) (by decide +kernel), rfl⟩
theorem wd_539 : Cond.instanceMethod ({ cls := "ShadowTailor$Street", name := "lengthOf", desc := "(II)I" } : MethodName) ∈ ax_tbl := List.mem_filter.mpr ⟨List.mem_of_getElem? (i := 539) (by decide +kernel), rfl⟩
theorem wd_540 : Cond.selects "ShadowTailor$Street" ({ cls := "ShadowTailor$Street", name := "lengthOf", desc := "(II)I" } : MethodName) ({ cls := "ShadowTailor$Street", name := "lengthOf", desc := "(II)I" } : MethodName) ∈ ax_tbl := List.mem_filter.mpr ⟨List.mem_of_getElem? (i := 540) (by decide +kernel), rfl⟩
theorem wd_541 : Cond.code ({ cls := "ShadowTailor$Street", name := "lengthOf", desc := "(II)I" } : MethodName) prog_9_method_10_code (3 : Nat) (Option.some FieldType.int) ∈ ax_tbl := List.mem_filter.mpr ⟨List.mem_of_getElem? (i := 541) (by decide +kernel), rfl⟩
theorem wd_542 : Cond.methodLink "ShadowTailor$Street" (91 : Nat) ({ cls := "ShadowTailor$Street", name := "fullLength", desc := "(II)I" } : MethodName) ∈ ax_tbl := List.mem_filter.mpr ⟨List.mem_of_getElem? (i := 542) (by decide +kernel), rfl⟩
theorem wd_543 : Cond.instanceMethod ({ cls := "ShadowTailor$Street", name := "fullLength", desc := "(II)I" } : MethodName) ∈ ax_tbl := List.mem_filter.mpr ⟨List.mem_of_getElem? (i := 543) (by decide +kernel), rfl⟩
theorem wd_544 : Cond.selects "ShadowTailor$Street" ({ cls := "ShadowTailor$Street", name := "fullLength", desc := "(II)I" } : MethodName) ({ cls := "ShadowTailor$Street", name := "fullLength", desc := "(II)I" } : MethodName) ∈ ax_tbl := List.mem_filter.mpr ⟨List.mem_of_getElem? (i := 544) (by decide +kernel), rfl⟩
theorem wd_545 : Cond.code ({ cls := "ShadowTailor$Street", name := "fullLength", desc := "(II)I" } : MethodName) prog_9_method_9_code (5 : Nat) (Option.some FieldType.int) ∈ ax_tbl := List.mem_filter.mpr ⟨List.mem_of_getElem? (i := 545) (by decide +kernel), rfl⟩
theorem wd_546 : Cond.methodLink "ShadowTailor$Street" (85 : Nat) ({ cls := "java/lang/Math", name := "abs", desc := "(I)I" } : MethodName) ∈ ax_tbl := List.mem_filter.mpr ⟨List.mem_of_getElem? (i := 546) (by decide +kernel), rfl⟩
theorem wd_547 : Cond.static ({ cls := "java/lang/Math", name := "abs", desc := "(I)I" } : MethodName) ∈ ax_tbl := List.mem_filter.mpr ⟨List.mem_of_getElem? (i := 547) (by decide +kernel), rfl⟩
theorem wd_548 : Cond.code ({ cls := "java/lang/Math", name := "abs", desc := "(I)I" } : MethodName) prog_16_method_59_code (1 : Nat) (Option.some FieldType.int) ∈ ax_tbl := List.mem_filter.mpr ⟨List.mem_of_getElem? (i := 548) (by decide +kernel), rfl⟩
theorem wd_549 : Cond.methodLink "ShadowTailor$Street" (94 : Nat) ({ cls := "java/lang/Math", name := "max", desc := "(II)I" } : MethodName) ∈ ax_tbl := List.mem_filter.mpr ⟨List.mem_of_getElem? (i := 549) (by decide +kernel), rfl⟩
theorem wd_550 : Cond.static ({ cls := "java/lang/Math", name := "max", desc := "(II)I" } : MethodName) ∈ ax_tbl := List.mem_filter.mpr ⟨List.mem_of_getElem? (i := 550) (by decide +kernel), rfl⟩
theorem wd_551 : Cond.code ({ cls := "java/lang/Math", name := "max", desc := "(II)I" } : MethodName) prog_16_method_65_code (2 : Nat) (Option.some FieldType.int) ∈ ax_tbl := List.mem_filter.mpr ⟨List.mem_of_getElem? (i := 551) (by decide +kernel), rfl⟩
theorem wd_552 : Cond.methodLink "ShadowTailor" (135 : Nat) ({ cls := "ShadowTailor$Street", name := "lowEndOf", desc := "(II)I" } : MethodName) ∈ ax_tbl := List.mem_filter.mpr ⟨List.mem_of_getElem? (i := 552) (by decide +kernel), rfl⟩
theorem wd_553 : Cond.instanceMethod ({ cls := "ShadowTailor$Street", name := "lowEndOf", desc := "(II)I" } : MethodName) ∈ ax_tbl := List.mem_filter.mpr ⟨List.mem_of_getElem? (i := 553) (by decide +kernel), rfl⟩
theorem wd_554 : Cond.selects "ShadowTailor$Street" ({ cls := "ShadowTailor$Street", name := "lowEndOf", desc := "(II)I" } : MethodName) ({ cls := "ShadowTailor$Street", name := "lowEndOf", desc := "(II)I" } : MethodName) ∈ ax_tbl := List.mem_filter.mpr ⟨List.mem_of_getElem? (i := 554) (by decide +kernel), rfl⟩
theorem wd_555 : Cond.code ({ cls := "ShadowTailor$Street", name := "lowEndOf", desc := "(II)I" } : MethodName) prog_9_method_13_code (3 : Nat) (Option.some FieldType.int) ∈ ax_tbl := List.mem_filter.mpr ⟨List.mem_of_getElem? (i := 555) (by decide +kernel), rfl⟩
theorem wd_556 : Cond.methodLink "ShadowTailor$Street" (97 : Nat) ({ cls := "ShadowTailor$Street", name := "wayOf", desc := "(II)I" } : MethodName) ∈ ax_tbl := List.mem_filter.mpr ⟨List.mem_of_getElem? (i := 556) (by decide +kernel), rfl⟩
theorem wd_557 : Cond.instanceMethod ({ cls := "ShadowTailor$Street", name := "wayOf", desc := "(II)I" } : MethodName) ∈ ax_tbl := List.mem_filter.mpr ⟨List.mem_of_getElem? (i := 557) (by decide +kernel), rfl⟩
theorem wd_558 : Cond.selects "ShadowTailor$Street" ({ cls := "ShadowTailor$Street", name := "wayOf", desc := "(II)I" } : MethodName) ({ cls := "ShadowTailor$Street", name := "wayOf", desc := "(II)I" } : MethodName) ∈ ax_tbl := List.mem_filter.mpr ⟨List.mem_of_getElem? (i := 558) (by decide +kernel), rfl⟩
theorem wd_559 : Cond.code ({ cls := "ShadowTailor$Street", name := "wayOf", desc := "(II)I" } : MethodName) prog_9_method_11_code (4 : Nat) (Option.some FieldType.int) ∈ ax_tbl := List.mem_filter.mpr ⟨List.mem_of_getElem? (i := 559) (by decide +kernel), rfl⟩
theorem wd_560 : Cond.methodLink "ShadowTailor$Street" (103 : Nat) ({ cls := "ShadowTailor$Street", name := "endOf", desc := "(II)I" } : MethodName) ∈ ax_tbl := List.mem_filter.mpr ⟨List.mem_of_getElem? (i := 560) (by decide +kernel), rfl⟩
theorem wd_561 : Cond.instanceMethod ({ cls := "ShadowTailor$Street", name := "endOf", desc := "(II)I" } : MethodName) ∈ ax_tbl := List.mem_filter.mpr ⟨List.mem_of_getElem? (i := 561) (by decide +kernel), rfl⟩
theorem wd_562 : Cond.selects "ShadowTailor$Street" ({ cls := "ShadowTailor$Street", name := "endOf", desc := "(II)I" } : MethodName) ({ cls := "ShadowTailor$Street", name := "endOf", desc := "(II)I" } : MethodName) ∈ ax_tbl := List.mem_filter.mpr ⟨List.mem_of_getElem? (i := 562) (by decide +kernel), rfl⟩
theorem wd_563 : Cond.code ({ cls := "ShadowTailor$Street", name := "endOf", desc := "(II)I" } : MethodName) prog_9_method_12_code (3 : Nat) (Option.some FieldType.int) ∈ ax_tbl := List.mem_filter.mpr ⟨List.mem_of_getElem? (i := 563) (by decide +kernel), rfl⟩
theorem wd_564 : Cond.methodLink "ShadowTailor$Street" (71 : Nat) ({ cls := "ShadowTailor$Street", name := "cellOf", desc := "(II)I" } : MethodName) ∈ ax_tbl := List.mem_filter.mpr ⟨List.mem_of_getElem? (i := 564) (by decide +kernel), rfl⟩
theorem wd_565 : Cond.methodLink "ShadowTailor$Street" (100 : Nat) ({ cls := "ShadowTailor$Street", name := "lengthOf", desc := "(II)I" } : MethodName) ∈ ax_tbl := List.mem_filter.mpr ⟨List.mem_of_getElem? (i := 565) (by decide +kernel), rfl⟩
theorem wd_566 : Cond.methodLink "ShadowTailor" (138 : Nat) ({ cls := "ShadowTailor$Street", name := "highEndOf", desc := "(II)I" } : MethodName) ∈ ax_tbl := List.mem_filter.mpr ⟨List.mem_of_getElem? (i := 566) (by decide +kernel), rfl⟩
theorem wd_567 : Cond.instanceMethod ({ cls := "ShadowTailor$Street", name := "highEndOf", desc := "(II)I" } : MethodName) ∈ ax_tbl := List.mem_filter.mpr ⟨List.mem_of_getElem? (i := 567) (by decide +kernel), rfl⟩
theorem wd_568 : Cond.selects "ShadowTailor$Street" ({ cls := "ShadowTailor$Street", name := "highEndOf", desc := "(II)I" } : MethodName) ({ cls := "ShadowTailor$Street", name := "highEndOf", desc := "(II)I" } : MethodName) ∈ ax_tbl := List.mem_filter.mpr ⟨List.mem_of_getElem? (i := 568) (by decide +kernel), rfl⟩
theorem wd_569 : Cond.code ({ cls := "ShadowTailor$Street", name := "highEndOf", desc := "(II)I" } : MethodName) prog_9_method_14_code (3 : Nat) (Option.some FieldType.int) ∈ ax_tbl := List.mem_filter.mpr ⟨List.mem_of_getElem? (i := 569) (by decide +kernel), rfl⟩
theorem wd_570 : Cond.methodLink "ShadowTailorLaw" (45 : Nat) ({ cls := "ShadowTailor", name := "covers", desc := "(II)I" } : MethodName) ∈ ax_tbl := List.mem_filter.mpr ⟨List.mem_of_getElem? (i := 570) (by decide +kernel), rfl⟩
theorem wd_571 : Cond.instanceMethod ({ cls := "ShadowTailor", name := "covers", desc := "(II)I" } : MethodName) ∈ ax_tbl := List.mem_filter.mpr ⟨List.mem_of_getElem? (i := 571) (by decide +kernel), rfl⟩
theorem wd_572 : Cond.selects "ShadowTailor" ({ cls := "ShadowTailor", name := "covers", desc := "(II)I" } : MethodName) ({ cls := "ShadowTailor", name := "covers", desc := "(II)I" } : MethodName) ∈ ax_tbl := List.mem_filter.mpr ⟨List.mem_of_getElem? (i := 572) (by decide +kernel), rfl⟩
theorem wd_573 : Cond.code ({ cls := "ShadowTailor", name := "covers", desc := "(II)I" } : MethodName) prog_1_method_9_code (3 : Nat) (Option.some FieldType.int) ∈ ax_tbl := List.mem_filter.mpr ⟨List.mem_of_getElem? (i := 573) (by decide +kernel), rfl⟩
theorem wd_574 : Cond.methodLink "ShadowTailor" (141 : Nat) ({ cls := "ShadowTailor", name := "isCell", desc := "(I)Z" } : MethodName) ∈ ax_tbl := List.mem_filter.mpr ⟨List.mem_of_getElem? (i := 574) (by decide +kernel), rfl⟩
theorem wd_575 : Cond.methodLink "ShadowTailor" (144 : Nat) ({ cls := "ShadowTailor$Street", name := "coverersOf", desc := "(II)I" } : MethodName) ∈ ax_tbl := List.mem_filter.mpr ⟨List.mem_of_getElem? (i := 575) (by decide +kernel), rfl⟩
theorem wd_576 : Cond.instanceMethod ({ cls := "ShadowTailor$Street", name := "coverersOf", desc := "(II)I" } : MethodName) ∈ ax_tbl := List.mem_filter.mpr ⟨List.mem_of_getElem? (i := 576) (by decide +kernel), rfl⟩
theorem wd_577 : Cond.selects "ShadowTailor$Street" ({ cls := "ShadowTailor$Street", name := "coverersOf", desc := "(II)I" } : MethodName) ({ cls := "ShadowTailor$Street", name := "coverersOf", desc := "(II)I" } : MethodName) ∈ ax_tbl := List.mem_filter.mpr ⟨List.mem_of_getElem? (i := 577) (by decide +kernel), rfl⟩
theorem wd_578 : Cond.code ({ cls := "ShadowTailor$Street", name := "coverersOf", desc := "(II)I" } : MethodName) prog_9_method_15_code (6 : Nat) (Option.some FieldType.int) ∈ ax_tbl := List.mem_filter.mpr ⟨List.mem_of_getElem? (i := 578) (by decide +kernel), rfl⟩
theorem wd_579 : Cond.methodLink "ShadowTailorLaw" (49 : Nat) ({ cls := "ShadowTailor", name := "stands", desc := "(II)I" } : MethodName) ∈ ax_tbl := List.mem_filter.mpr ⟨List.mem_of_getElem? (i := 579) (by decide +kernel), rfl⟩
theorem wd_580 : Cond.instanceMethod ({ cls := "ShadowTailor", name := "stands", desc := "(II)I" } : MethodName) ∈ ax_tbl := List.mem_filter.mpr ⟨List.mem_of_getElem? (i := 580) (by decide +kernel), rfl⟩
theorem wd_581 : Cond.selects "ShadowTailor" ({ cls := "ShadowTailor", name := "stands", desc := "(II)I" } : MethodName) ({ cls := "ShadowTailor", name := "stands", desc := "(II)I" } : MethodName) ∈ ax_tbl := List.mem_filter.mpr ⟨List.mem_of_getElem? (i := 581) (by decide +kernel), rfl⟩
theorem wd_582 : Cond.code ({ cls := "ShadowTailor", name := "stands", desc := "(II)I" } : MethodName) prog_1_method_10_code (3 : Nat) (Option.some FieldType.int) ∈ ax_tbl := List.mem_filter.mpr ⟨List.mem_of_getElem? (i := 582) (by decide +kernel), rfl⟩
theorem wd_583 : Cond.methodLink "ShadowTailor" (147 : Nat) ({ cls := "ShadowTailor", name := "standersAt", desc := "(II)I" } : MethodName) ∈ ax_tbl := List.mem_filter.mpr ⟨List.mem_of_getElem? (i := 583) (by decide +kernel), rfl⟩
theorem wd_585 : Cond.instanceMethod ({ cls := "ShadowTailor", name := "standersAt", desc := "(II)I" } : MethodName) ∈ ax_tbl := List.mem_filter.mpr ⟨List.mem_of_getElem? (i := 585) (by decide +kernel), rfl⟩
theorem wd_586 : Cond.code ({ cls := "ShadowTailor", name := "standersAt", desc := "(II)I" } : MethodName) prog_1_method_33_code (3 : Nat) (Option.some FieldType.int) ∈ ax_tbl := List.mem_filter.mpr ⟨List.mem_of_getElem? (i := 586) (by decide +kernel), rfl⟩
theorem wd_587 : Cond.methodLink "ShadowTailor" (269 : Nat) ({ cls := "ShadowTailor$Street", name := "cellsAt", desc := "(I)[I" } : MethodName) ∈ ax_tbl := List.mem_filter.mpr ⟨List.mem_of_getElem? (i := 587) (by decide +kernel), rfl⟩
theorem wd_588 : Cond.instanceMethod ({ cls := "ShadowTailor$Street", name := "cellsAt", desc := "(I)[I" } : MethodName) ∈ ax_tbl := List.mem_filter.mpr ⟨List.mem_of_getElem? (i := 588) (by decide +kernel), rfl⟩
theorem wd_589 : Cond.selects "ShadowTailor$Street" ({ cls := "ShadowTailor$Street", name := "cellsAt", desc := "(I)[I" } : MethodName) ({ cls := "ShadowTailor$Street", name := "cellsAt", desc := "(I)[I" } : MethodName) ∈ ax_tbl := List.mem_filter.mpr ⟨List.mem_of_getElem? (i := 589) (by decide +kernel), rfl⟩
theorem wd_590 : Cond.code ({ cls := "ShadowTailor$Street", name := "cellsAt", desc := "(I)[I" } : MethodName) prog_9_method_7_code (3 : Nat) (Option.some (FieldType.array FieldType.int)) ∈ ax_tbl := List.mem_filter.mpr ⟨List.mem_of_getElem? (i := 590) (by decide +kernel), rfl⟩
theorem wd_591 : Cond.methodLink "ShadowTailor" (257 : Nat) ({ cls := "ShadowTailor$Street", name := "standersOn", desc := "(II[I)I" } : MethodName) ∈ ax_tbl := List.mem_filter.mpr ⟨List.mem_of_getElem? (i := 591) (by decide +kernel), rfl⟩
theorem wd_592 : Cond.instanceMethod ({ cls := "ShadowTailor$Street", name := "standersOn", desc := "(II[I)I" } : MethodName) ∈ ax_tbl := List.mem_filter.mpr ⟨List.mem_of_getElem? (i := 592) (by decide +kernel), rfl⟩
theorem wd_593 : Cond.selects "ShadowTailor$Street" ({ cls := "ShadowTailor$Street", name := "standersOn", desc := "(II[I)I" } : MethodName) ({ cls := "ShadowTailor$Street", name := "standersOn", desc := "(II[I)I" } : MethodName) ∈ ax_tbl := List.mem_filter.mpr ⟨List.mem_of_getElem? (i := 593) (by decide +kernel), rfl⟩
theorem wd_594 : Cond.code ({ cls := "ShadowTailor$Street", name := "standersOn", desc := "(II[I)I" } : MethodName) prog_9_method_16_code (9 : Nat) (Option.some FieldType.int) ∈ ax_tbl := List.mem_filter.mpr ⟨List.mem_of_getElem? (i := 594) (by decide +kernel), rfl⟩
theorem wd_595 : Cond.methodLink "ShadowTailorLaw" (53 : Nat) ({ cls := "ShadowTailor", name := "wear", desc := "(II)I" } : MethodName) ∈ ax_tbl := List.mem_filter.mpr ⟨List.mem_of_getElem? (i := 595) (by decide +kernel), rfl⟩
theorem wd_596 : Cond.instanceMethod ({ cls := "ShadowTailor", name := "wear", desc := "(II)I" } : MethodName) ∈ ax_tbl := List.mem_filter.mpr ⟨List.mem_of_getElem? (i := 596) (by decide +kernel), rfl⟩
theorem wd_597 : Cond.selects "ShadowTailor" ({ cls := "ShadowTailor", name := "wear", desc := "(II)I" } : MethodName) ({ cls := "ShadowTailor", name := "wear", desc := "(II)I" } : MethodName) ∈ ax_tbl := List.mem_filter.mpr ⟨List.mem_of_getElem? (i := 597) (by decide +kernel), rfl⟩
theorem wd_598 : Cond.code ({ cls := "ShadowTailor", name := "wear", desc := "(II)I" } : MethodName) prog_1_method_11_code (5 : Nat) (Option.some FieldType.int) ∈ ax_tbl := List.mem_filter.mpr ⟨List.mem_of_getElem? (i := 598) (by decide +kernel), rfl⟩
theorem wd_599 : Cond.methodLink "ShadowTailor" (150 : Nat) ({ cls := "java/lang/Integer", name := "bitCount", desc := "(I)I" } : MethodName) ∈ ax_tbl := List.mem_filter.mpr ⟨List.mem_of_getElem? (i := 599) (by decide +kernel), rfl⟩
theorem wd_600 : Cond.static ({ cls := "java/lang/Integer", name := "bitCount", desc := "(I)I" } : MethodName) ∈ ax_tbl := List.mem_filter.mpr ⟨List.mem_of_getElem? (i := 600) (by decide +kernel), rfl⟩
theorem wd_601 : Cond.code ({ cls := "java/lang/Integer", name := "bitCount", desc := "(I)I" } : MethodName) prog_15_method_49_code (1 : Nat) (Option.some FieldType.int) ∈ ax_tbl := List.mem_filter.mpr ⟨List.mem_of_getElem? (i := 601) (by decide +kernel), rfl⟩
theorem wd_602 : Cond.constant "java/lang/Integer" (265 : Nat) (1431655765 : Int32) ∈ ax_tbl := List.mem_filter.mpr ⟨List.mem_of_getElem? (i := 602) (by decide +kernel), rfl⟩
theorem wd_603 : Cond.constant "java/lang/Integer" (266 : Nat) (858993459 : Int32) ∈ ax_tbl := List.mem_filter.mpr ⟨List.mem_of_getElem? (i := 603) (by decide +kernel), rfl⟩
theorem wd_604 : Cond.constant "java/lang/Integer" (267 : Nat) (252645135 : Int32) ∈ ax_tbl := List.mem_filter.mpr ⟨List.mem_of_getElem? (i := 604) (by decide +kernel), rfl⟩
theorem wd_605 : Cond.methodLink "ShadowTailorLaw" (57 : Nat) ({ cls := "ShadowTailor", name := "alter", desc := "(II)I" } : MethodName) ∈ ax_tbl := List.mem_filter.mpr ⟨List.mem_of_getElem? (i := 605) (by decide +kernel), rfl⟩
theorem wd_606 : Cond.instanceMethod ({ cls := "ShadowTailor", name := "alter", desc := "(II)I" } : MethodName) ∈ ax_tbl := List.mem_filter.mpr ⟨List.mem_of_getElem? (i := 606) (by decide +kernel), rfl⟩
theorem wd_607 : Cond.selects "ShadowTailor" ({ cls := "ShadowTailor", name := "alter", desc := "(II)I" } : MethodName) ({ cls := "ShadowTailor", name := "alter", desc := "(II)I" } : MethodName) ∈ ax_tbl := List.mem_filter.mpr ⟨List.mem_of_getElem? (i := 607) (by decide +kernel), rfl⟩
theorem wd_608 : Cond.code ({ cls := "ShadowTailor", name := "alter", desc := "(II)I" } : MethodName) prog_1_method_12_code (5 : Nat) (Option.some FieldType.int) ∈ ax_tbl := List.mem_filter.mpr ⟨List.mem_of_getElem? (i := 608) (by decide +kernel), rfl⟩
theorem wd_609 : Cond.methodLink "ShadowTailor" (156 : Nat) ({ cls := "ShadowTailor$Changes", name := "add", desc := "(II)V" } : MethodName) ∈ ax_tbl := List.mem_filter.mpr ⟨List.mem_of_getElem? (i := 609) (by decide +kernel), rfl⟩
theorem wd_610 : Cond.instanceMethod ({ cls := "ShadowTailor$Changes", name := "add", desc := "(II)V" } : MethodName) ∈ ax_tbl := List.mem_filter.mpr ⟨List.mem_of_getElem? (i := 610) (by decide +kernel), rfl⟩
theorem wd_611 : Cond.selects "ShadowTailor$Changes" ({ cls := "ShadowTailor$Changes", name := "add", desc := "(II)V" } : MethodName) ({ cls := "ShadowTailor$Changes", name := "add", desc := "(II)V" } : MethodName) ∈ ax_tbl := List.mem_filter.mpr ⟨List.mem_of_getElem? (i := 611) (by decide +kernel), rfl⟩
theorem wd_612 : Cond.code ({ cls := "ShadowTailor$Changes", name := "add", desc := "(II)V" } : MethodName) prog_2_method_2_code (3 : Nat) (Option.none : Option FieldType) ∈ ax_tbl := List.mem_filter.mpr ⟨List.mem_of_getElem? (i := 612) (by decide +kernel), rfl⟩
theorem wd_613 : Cond.methodLink "ShadowTailor$Changes" (22 : Nat) ({ cls := "ShadowTailor$Changes", name := "dropOldest", desc := "()V" } : MethodName) ∈ ax_tbl := List.mem_filter.mpr ⟨List.mem_of_getElem? (i := 613) (by decide +kernel), rfl⟩
theorem wd_615 : Cond.instanceMethod ({ cls := "ShadowTailor$Changes", name := "dropOldest", desc := "()V" } : MethodName) ∈ ax_tbl := List.mem_filter.mpr ⟨List.mem_of_getElem? (i := 615) (by decide +kernel), rfl⟩
theorem wd_616 : Cond.code ({ cls := "ShadowTailor$Changes", name := "dropOldest", desc := "()V" } : MethodName) prog_2_method_3_code (2 : Nat) (Option.none : Option FieldType) ∈ ax_tbl := List.mem_filter.mpr ⟨List.mem_of_getElem? (i := 616) (by decide +kernel), rfl⟩
theorem wd_617 : Cond.methodLink "ShadowTailorLaw" (61 : Nat) ({ cls := "ShadowTailor", name := "walk", desc := "(III)I" } : MethodName) ∈ ax_tbl := List.mem_filter.mpr ⟨List.mem_of_getElem? (i := 617) (by decide +kernel), rfl⟩
theorem wd_618 : Cond.instanceMethod ({ cls := "ShadowTailor", name := "walk", desc := "(III)I" } : MethodName) ∈ ax_tbl := List.mem_filter.mpr ⟨List.mem_of_getElem? (i := 618) (by decide +kernel), rfl⟩
theorem wd_619 : Cond.selects "ShadowTailor" ({ cls := "ShadowTailor", name := "walk", desc := "(III)I" } : MethodName) ({ cls := "ShadowTailor", name := "walk", desc := "(III)I" } : MethodName) ∈ ax_tbl := List.mem_filter.mpr ⟨List.mem_of_getElem? (i := 619) (by decide +kernel), rfl⟩
theorem wd_620 : Cond.code ({ cls := "ShadowTailor", name := "walk", desc := "(III)I" } : MethodName) prog_1_method_13_code (4 : Nat) (Option.some FieldType.int) ∈ ax_tbl := List.mem_filter.mpr ⟨List.mem_of_getElem? (i := 620) (by decide +kernel), rfl⟩
theorem wd_621 : Cond.methodLink "ShadowTailor" (159 : Nat) ({ cls := "ShadowTailor$State", name := "addWalk", desc := "(III)Z" } : MethodName) ∈ ax_tbl := List.mem_filter.mpr ⟨List.mem_of_getElem? (i := 621) (by decide +kernel), rfl⟩
theorem wd_622 : Cond.methodLink "ShadowTailorLaw" (65 : Nat) ({ cls := "ShadowTailor", name := "undo", desc := "()I" } : MethodName) ∈ ax_tbl := List.mem_filter.mpr ⟨List.mem_of_getElem? (i := 622) (by decide +kernel), rfl⟩
theorem wd_623 : Cond.instanceMethod ({ cls := "ShadowTailor", name := "undo", desc := "()I" } : MethodName) ∈ ax_tbl := List.mem_filter.mpr ⟨List.mem_of_getElem? (i := 623) (by decide +kernel), rfl⟩
theorem wd_624 : Cond.selects "ShadowTailor" ({ cls := "ShadowTailor", name := "undo", desc := "()I" } : MethodName) ({ cls := "ShadowTailor", name := "undo", desc := "()I" } : MethodName) ∈ ax_tbl := List.mem_filter.mpr ⟨List.mem_of_getElem? (i := 624) (by decide +kernel), rfl⟩
theorem wd_625 : Cond.code ({ cls := "ShadowTailor", name := "undo", desc := "()I" } : MethodName) prog_1_method_14_code (1 : Nat) (Option.some FieldType.int) ∈ ax_tbl := List.mem_filter.mpr ⟨List.mem_of_getElem? (i := 625) (by decide +kernel), rfl⟩
theorem wd_626 : Cond.methodLink "ShadowTailor" (166 : Nat) ({ cls := "ShadowTailor$Changes", name := "takeBack", desc := "(LShadowTailor$State;)Z" } : MethodName) ∈ ax_tbl := List.mem_filter.mpr ⟨List.mem_of_getElem? (i := 626) (by decide +kernel), rfl⟩
theorem wd_627 : Cond.instanceMethod ({ cls := "ShadowTailor$Changes", name := "takeBack", desc := "(LShadowTailor$State;)Z" } : MethodName) ∈ ax_tbl := List.mem_filter.mpr ⟨List.mem_of_getElem? (i := 627) (by decide +kernel), rfl⟩
theorem wd_628 : Cond.selects "ShadowTailor$Changes" ({ cls := "ShadowTailor$Changes", name := "takeBack", desc := "(LShadowTailor$State;)Z" } : MethodName) ({ cls := "ShadowTailor$Changes", name := "takeBack", desc := "(LShadowTailor$State;)Z" } : MethodName) ∈ ax_tbl := List.mem_filter.mpr ⟨List.mem_of_getElem? (i := 628) (by decide +kernel), rfl⟩
theorem wd_629 : Cond.code ({ cls := "ShadowTailor$Changes", name := "takeBack", desc := "(LShadowTailor$State;)Z" } : MethodName) prog_2_method_4_code (2 : Nat) (Option.some FieldType.boolean) ∈ ax_tbl := List.mem_filter.mpr ⟨List.mem_of_getElem? (i := 629) (by decide +kernel), rfl⟩
theorem wd_630 : Cond.methodLink "ShadowTailorLaw" (69 : Nat) ({ cls := "ShadowTailor", name := "first", desc := "(I)I" } : MethodName) ∈ ax_tbl := List.mem_filter.mpr ⟨List.mem_of_getElem? (i := 630) (by decide +kernel), rfl⟩
theorem wd_631 : Cond.instanceMethod ({ cls := "ShadowTailor", name := "first", desc := "(I)I" } : MethodName) ∈ ax_tbl := List.mem_filter.mpr ⟨List.mem_of_getElem? (i := 631) (by decide +kernel), rfl⟩
theorem wd_632 : Cond.selects "ShadowTailor" ({ cls := "ShadowTailor", name := "first", desc := "(I)I" } : MethodName) ({ cls := "ShadowTailor", name := "first", desc := "(I)I" } : MethodName) ∈ ax_tbl := List.mem_filter.mpr ⟨List.mem_of_getElem? (i := 632) (by decide +kernel), rfl⟩
theorem wd_633 : Cond.code ({ cls := "ShadowTailor", name := "first", desc := "(I)I" } : MethodName) prog_1_method_15_code (5 : Nat) (Option.some FieldType.int) ∈ ax_tbl := List.mem_filter.mpr ⟨List.mem_of_getElem? (i := 633) (by decide +kernel), rfl⟩
theorem wd_634 : Cond.methodLink "ShadowTailor" (170 : Nat) ({ cls := "java/lang/Integer", name := "numberOfTrailingZeros", desc := "(I)I" } : MethodName) ∈ ax_tbl := List.mem_filter.mpr ⟨List.mem_of_getElem? (i := 634) (by decide +kernel), rfl⟩
theorem wd_635 : Cond.static ({ cls := "java/lang/Integer", name := "numberOfTrailingZeros", desc := "(I)I" } : MethodName) ∈ ax_tbl := List.mem_filter.mpr ⟨List.mem_of_getElem? (i := 635) (by decide +kernel), rfl⟩
theorem wd_636 : Cond.code ({ cls := "java/lang/Integer", name := "numberOfTrailingZeros", desc := "(I)I" } : MethodName) prog_15_method_48_code (2 : Nat) (Option.some FieldType.int) ∈ ax_tbl := List.mem_filter.mpr ⟨List.mem_of_getElem? (i := 636) (by decide +kernel), rfl⟩
theorem wd_637 : Cond.constant "java/lang/Integer" (264 : Nat) (65536 : Int32) ∈ ax_tbl := List.mem_filter.mpr ⟨List.mem_of_getElem? (i := 637) (by decide +kernel), rfl⟩
theorem wd_638 : Cond.methodLink "ShadowTailorLaw" (73 : Nat) ({ cls := "ShadowTailor", name := "broken", desc := "()I" } : MethodName) ∈ ax_tbl := List.mem_filter.mpr ⟨List.mem_of_getElem? (i := 638) (by decide +kernel), rfl⟩
theorem wd_639 : Cond.instanceMethod ({ cls := "ShadowTailor", name := "broken", desc := "()I" } : MethodName) ∈ ax_tbl := List.mem_filter.mpr ⟨List.mem_of_getElem? (i := 639) (by decide +kernel), rfl⟩
theorem wd_640 : Cond.selects "ShadowTailor" ({ cls := "ShadowTailor", name := "broken", desc := "()I" } : MethodName) ({ cls := "ShadowTailor", name := "broken", desc := "()I" } : MethodName) ∈ ax_tbl := List.mem_filter.mpr ⟨List.mem_of_getElem? (i := 640) (by decide +kernel), rfl⟩
theorem wd_641 : Cond.code ({ cls := "ShadowTailor", name := "broken", desc := "()I" } : MethodName) prog_1_method_16_code (1 : Nat) (Option.some FieldType.int) ∈ ax_tbl := List.mem_filter.mpr ⟨List.mem_of_getElem? (i := 641) (by decide +kernel), rfl⟩
theorem wd_642 : Cond.methodLink "ShadowTailor" (173 : Nat) ({ cls := "ShadowTailor$Street", name := "firstBroken", desc := "()I" } : MethodName) ∈ ax_tbl := List.mem_filter.mpr ⟨List.mem_of_getElem? (i := 642) (by decide +kernel), rfl⟩
theorem wd_643 : Cond.instanceMethod ({ cls := "ShadowTailor$Street", name := "firstBroken", desc := "()I" } : MethodName) ∈ ax_tbl := List.mem_filter.mpr ⟨List.mem_of_getElem? (i := 643) (by decide +kernel), rfl⟩
theorem wd_644 : Cond.selects "ShadowTailor$Street" ({ cls := "ShadowTailor$Street", name := "firstBroken", desc := "()I" } : MethodName) ({ cls := "ShadowTailor$Street", name := "firstBroken", desc := "()I" } : MethodName) ∈ ax_tbl := List.mem_filter.mpr ⟨List.mem_of_getElem? (i := 644) (by decide +kernel), rfl⟩
theorem wd_645 : Cond.code ({ cls := "ShadowTailor$Street", name := "firstBroken", desc := "()I" } : MethodName) prog_9_method_17_code (2 : Nat) (Option.some FieldType.int) ∈ ax_tbl := List.mem_filter.mpr ⟨List.mem_of_getElem? (i := 645) (by decide +kernel), rfl⟩
theorem wd_646 : Cond.methodLink "ShadowTailorLaw" (77 : Nat) ({ cls := "ShadowTailor", name := "taken", desc := "(III)I" } : MethodName) ∈ ax_tbl := List.mem_filter.mpr ⟨List.mem_of_getElem? (i := 646) (by decide +kernel), rfl⟩
theorem wd_647 : Cond.instanceMethod ({ cls := "ShadowTailor", name := "taken", desc := "(III)I" } : MethodName) ∈ ax_tbl := List.mem_filter.mpr ⟨List.mem_of_getElem? (i := 647) (by decide +kernel), rfl⟩
theorem wd_648 : Cond.selects "ShadowTailor" ({ cls := "ShadowTailor", name := "taken", desc := "(III)I" } : MethodName) ({ cls := "ShadowTailor", name := "taken", desc := "(III)I" } : MethodName) ∈ ax_tbl := List.mem_filter.mpr ⟨List.mem_of_getElem? (i := 648) (by decide +kernel), rfl⟩
theorem wd_649 : Cond.code ({ cls := "ShadowTailor", name := "taken", desc := "(III)I" } : MethodName) prog_1_method_17_code (5 : Nat) (Option.some FieldType.int) ∈ ax_tbl := List.mem_filter.mpr ⟨List.mem_of_getElem? (i := 649) (by decide +kernel), rfl⟩
theorem wd_650 : Cond.methodLink "ShadowTailor" (177 : Nat) ({ cls := "ShadowTailor", name := "areHours", desc := "(II)Z" } : MethodName) ∈ ax_tbl := List.mem_filter.mpr ⟨List.mem_of_getElem? (i := 650) (by decide +kernel), rfl⟩
theorem wd_651 : Cond.static ({ cls := "ShadowTailor", name := "areHours", desc := "(II)Z" } : MethodName) ∈ ax_tbl := List.mem_filter.mpr ⟨List.mem_of_getElem? (i := 651) (by decide +kernel), rfl⟩
theorem wd_652 : Cond.code ({ cls := "ShadowTailor", name := "areHours", desc := "(II)Z" } : MethodName) prog_1_method_35_code (2 : Nat) (Option.some FieldType.boolean) ∈ ax_tbl := List.mem_filter.mpr ⟨List.mem_of_getElem? (i := 652) (by decide +kernel), rfl⟩
theorem wd_653 : Cond.methodLink "ShadowTailor" (181 : Nat) ({ cls := "ShadowTailor$Street", name := "neededByLaws", desc := "(I)I" } : MethodName) ∈ ax_tbl := List.mem_filter.mpr ⟨List.mem_of_getElem? (i := 653) (by decide +kernel), rfl⟩
theorem wd_654 : Cond.instanceMethod ({ cls := "ShadowTailor$Street", name := "neededByLaws", desc := "(I)I" } : MethodName) ∈ ax_tbl := List.mem_filter.mpr ⟨List.mem_of_getElem? (i := 654) (by decide +kernel), rfl⟩
theorem wd_655 : Cond.selects "ShadowTailor$Street" ({ cls := "ShadowTailor$Street", name := "neededByLaws", desc := "(I)I" } : MethodName) ({ cls := "ShadowTailor$Street", name := "neededByLaws", desc := "(I)I" } : MethodName) ∈ ax_tbl := List.mem_filter.mpr ⟨List.mem_of_getElem? (i := 655) (by decide +kernel), rfl⟩
theorem wd_656 : Cond.code ({ cls := "ShadowTailor$Street", name := "neededByLaws", desc := "(I)I" } : MethodName) prog_9_method_18_code (4 : Nat) (Option.some FieldType.int) ∈ ax_tbl := List.mem_filter.mpr ⟨List.mem_of_getElem? (i := 656) (by decide +kernel), rfl⟩
theorem wd_657 : Cond.methodLink "ShadowTailor" (184 : Nat) ({ cls := "ShadowTailor$Street", name := "neededByStanders", desc := "(III)I" } : MethodName) ∈ ax_tbl := List.mem_filter.mpr ⟨List.mem_of_getElem? (i := 657) (by decide +kernel), rfl⟩
theorem wd_658 : Cond.instanceMethod ({ cls := "ShadowTailor$Street", name := "neededByStanders", desc := "(III)I" } : MethodName) ∈ ax_tbl := List.mem_filter.mpr ⟨List.mem_of_getElem? (i := 658) (by decide +kernel), rfl⟩
theorem wd_659 : Cond.selects "ShadowTailor$Street" ({ cls := "ShadowTailor$Street", name := "neededByStanders", desc := "(III)I" } : MethodName) ({ cls := "ShadowTailor$Street", name := "neededByStanders", desc := "(III)I" } : MethodName) ∈ ax_tbl := List.mem_filter.mpr ⟨List.mem_of_getElem? (i := 659) (by decide +kernel), rfl⟩
theorem wd_660 : Cond.code ({ cls := "ShadowTailor$Street", name := "neededByStanders", desc := "(III)I" } : MethodName) prog_9_method_19_code (9 : Nat) (Option.some FieldType.int) ∈ ax_tbl := List.mem_filter.mpr ⟨List.mem_of_getElem? (i := 660) (by decide +kernel), rfl⟩
theorem wd_661 : Cond.methodLink "ShadowTailor$Street" (106 : Nat) ({ cls := "ShadowTailor$Street", name := "cellsAt", desc := "(I)[I" } : MethodName) ∈ ax_tbl := List.mem_filter.mpr ⟨List.mem_of_getElem? (i := 661) (by decide +kernel), rfl⟩
theorem wd_662 : Cond.methodLink "ShadowTailor" (188 : Nat) ({ cls := "java/lang/Math", name := "max", desc := "(II)I" } : MethodName) ∈ ax_tbl := List.mem_filter.mpr ⟨List.mem_of_getElem? (i := 662) (by decide +kernel), rfl⟩
theorem wd_663 : Cond.methodLink "ShadowTailorLaw" (81 : Nat) ({ cls := "ShadowTailor", name := "seen", desc := "(II)I" } : MethodName) ∈ ax_tbl := List.mem_filter.mpr ⟨List.mem_of_getElem? (i := 663) (by decide +kernel), rfl⟩
theorem wd_664 : Cond.instanceMethod ({ cls := "ShadowTailor", name := "seen", desc := "(II)I" } : MethodName) ∈ ax_tbl := List.mem_filter.mpr ⟨List.mem_of_getElem? (i := 664) (by decide +kernel), rfl⟩
theorem wd_665 : Cond.selects "ShadowTailor" ({ cls := "ShadowTailor", name := "seen", desc := "(II)I" } : MethodName) ({ cls := "ShadowTailor", name := "seen", desc := "(II)I" } : MethodName) ∈ ax_tbl := List.mem_filter.mpr ⟨List.mem_of_getElem? (i := 665) (by decide +kernel), rfl⟩
theorem wd_666 : Cond.code ({ cls := "ShadowTailor", name := "seen", desc := "(II)I" } : MethodName) prog_1_method_18_code (3 : Nat) (Option.some FieldType.int) ∈ ax_tbl := List.mem_filter.mpr ⟨List.mem_of_getElem? (i := 666) (by decide +kernel), rfl⟩
theorem wd_667 : Cond.methodLink "ShadowTailor" (193 : Nat) ({ cls := "ShadowTailor$Sightings", name := "add", desc := "(II)Z" } : MethodName) ∈ ax_tbl := List.mem_filter.mpr ⟨List.mem_of_getElem? (i := 667) (by decide +kernel), rfl⟩
theorem wd_668 : Cond.instanceMethod ({ cls := "ShadowTailor$Sightings", name := "add", desc := "(II)Z" } : MethodName) ∈ ax_tbl := List.mem_filter.mpr ⟨List.mem_of_getElem? (i := 668) (by decide +kernel), rfl⟩
theorem wd_669 : Cond.selects "ShadowTailor$Sightings" ({ cls := "ShadowTailor$Sightings", name := "add", desc := "(II)Z" } : MethodName) ({ cls := "ShadowTailor$Sightings", name := "add", desc := "(II)Z" } : MethodName) ∈ ax_tbl := List.mem_filter.mpr ⟨List.mem_of_getElem? (i := 669) (by decide +kernel), rfl⟩
theorem wd_670 : Cond.code ({ cls := "ShadowTailor$Sightings", name := "add", desc := "(II)Z" } : MethodName) prog_6_method_2_code (3 : Nat) (Option.some FieldType.boolean) ∈ ax_tbl := List.mem_filter.mpr ⟨List.mem_of_getElem? (i := 670) (by decide +kernel), rfl⟩
theorem wd_671 : Cond.methodLink "ShadowTailorLaw" (85 : Nat) ({ cls := "ShadowTailor", name := "forget", desc := "()I" } : MethodName) ∈ ax_tbl := List.mem_filter.mpr ⟨List.mem_of_getElem? (i := 671) (by decide +kernel), rfl⟩
theorem wd_672 : Cond.instanceMethod ({ cls := "ShadowTailor", name := "forget", desc := "()I" } : MethodName) ∈ ax_tbl := List.mem_filter.mpr ⟨List.mem_of_getElem? (i := 672) (by decide +kernel), rfl⟩
theorem wd_673 : Cond.selects "ShadowTailor" ({ cls := "ShadowTailor", name := "forget", desc := "()I" } : MethodName) ({ cls := "ShadowTailor", name := "forget", desc := "()I" } : MethodName) ∈ ax_tbl := List.mem_filter.mpr ⟨List.mem_of_getElem? (i := 673) (by decide +kernel), rfl⟩
theorem wd_674 : Cond.code ({ cls := "ShadowTailor", name := "forget", desc := "()I" } : MethodName) prog_1_method_19_code (2 : Nat) (Option.some FieldType.int) ∈ ax_tbl := List.mem_filter.mpr ⟨List.mem_of_getElem? (i := 674) (by decide +kernel), rfl⟩
theorem wd_675 : Cond.methodLink "ShadowTailorLaw" (89 : Nat) ({ cls := "ShadowTailor", name := "whose", desc := "()I" } : MethodName) ∈ ax_tbl := List.mem_filter.mpr ⟨List.mem_of_getElem? (i := 675) (by decide +kernel), rfl⟩
theorem wd_676 : Cond.instanceMethod ({ cls := "ShadowTailor", name := "whose", desc := "()I" } : MethodName) ∈ ax_tbl := List.mem_filter.mpr ⟨List.mem_of_getElem? (i := 676) (by decide +kernel), rfl⟩
theorem wd_677 : Cond.selects "ShadowTailor" ({ cls := "ShadowTailor", name := "whose", desc := "()I" } : MethodName) ({ cls := "ShadowTailor", name := "whose", desc := "()I" } : MethodName) ∈ ax_tbl := List.mem_filter.mpr ⟨List.mem_of_getElem? (i := 677) (by decide +kernel), rfl⟩
theorem wd_678 : Cond.code ({ cls := "ShadowTailor", name := "whose", desc := "()I" } : MethodName) prog_1_method_20_code (1 : Nat) (Option.some FieldType.int) ∈ ax_tbl := List.mem_filter.mpr ⟨List.mem_of_getElem? (i := 678) (by decide +kernel), rfl⟩
theorem wd_679 : Cond.methodLink "ShadowTailor" (195 : Nat) ({ cls := "ShadowTailor$Sightings", name := "suspects", desc := "(LShadowTailor$Street;)I" } : MethodName) ∈ ax_tbl := List.mem_filter.mpr ⟨List.mem_of_getElem? (i := 679) (by decide +kernel), rfl⟩
theorem wd_680 : Cond.instanceMethod ({ cls := "ShadowTailor$Sightings", name := "suspects", desc := "(LShadowTailor$Street;)I" } : MethodName) ∈ ax_tbl := List.mem_filter.mpr ⟨List.mem_of_getElem? (i := 680) (by decide +kernel), rfl⟩
theorem wd_681 : Cond.selects "ShadowTailor$Sightings" ({ cls := "ShadowTailor$Sightings", name := "suspects", desc := "(LShadowTailor$Street;)I" } : MethodName) ({ cls := "ShadowTailor$Sightings", name := "suspects", desc := "(LShadowTailor$Street;)I" } : MethodName) ∈ ax_tbl := List.mem_filter.mpr ⟨List.mem_of_getElem? (i := 681) (by decide +kernel), rfl⟩
theorem wd_682 : Cond.code ({ cls := "ShadowTailor$Sightings", name := "suspects", desc := "(LShadowTailor$Street;)I" } : MethodName) prog_6_method_3_code (4 : Nat) (Option.some FieldType.int) ∈ ax_tbl := List.mem_filter.mpr ⟨List.mem_of_getElem? (i := 682) (by decide +kernel), rfl⟩
theorem wd_683 : Cond.methodLink "ShadowTailor$Sightings" (27 : Nat) ({ cls := "ShadowTailor$Sightings", name := "fits", desc := "(LShadowTailor$Street;I)Z" } : MethodName) ∈ ax_tbl := List.mem_filter.mpr ⟨List.mem_of_getElem? (i := 683) (by decide +kernel), rfl⟩
theorem wd_685 : Cond.instanceMethod ({ cls := "ShadowTailor$Sightings", name := "fits", desc := "(LShadowTailor$Street;I)Z" } : MethodName) ∈ ax_tbl := List.mem_filter.mpr ⟨List.mem_of_getElem? (i := 685) (by decide +kernel), rfl⟩
theorem wd_686 : Cond.code ({ cls := "ShadowTailor$Sightings", name := "fits", desc := "(LShadowTailor$Street;I)Z" } : MethodName) prog_6_method_4_code (4 : Nat) (Option.some FieldType.boolean) ∈ ax_tbl := List.mem_filter.mpr ⟨List.mem_of_getElem? (i := 686) (by decide +kernel), rfl⟩
theorem wd_687 : Cond.methodLink "ShadowTailor$Sightings" (31 : Nat) ({ cls := "ShadowTailor$Street", name := "endOf", desc := "(II)I" } : MethodName) ∈ ax_tbl := List.mem_filter.mpr ⟨List.mem_of_getElem? (i := 687) (by decide +kernel), rfl⟩
theorem wd_688 : Cond.methodLink "ShadowTailorLaw" (93 : Nat) ({ cls := "ShadowTailor", name := "look", desc := "(I)I" } : MethodName) ∈ ax_tbl := List.mem_filter.mpr ⟨List.mem_of_getElem? (i := 688) (by decide +kernel), rfl⟩
theorem wd_689 : Cond.instanceMethod ({ cls := "ShadowTailor", name := "look", desc := "(I)I" } : MethodName) ∈ ax_tbl := List.mem_filter.mpr ⟨List.mem_of_getElem? (i := 689) (by decide +kernel), rfl⟩
theorem wd_690 : Cond.selects "ShadowTailor" ({ cls := "ShadowTailor", name := "look", desc := "(I)I" } : MethodName) ({ cls := "ShadowTailor", name := "look", desc := "(I)I" } : MethodName) ∈ ax_tbl := List.mem_filter.mpr ⟨List.mem_of_getElem? (i := 690) (by decide +kernel), rfl⟩
theorem wd_691 : Cond.code ({ cls := "ShadowTailor", name := "look", desc := "(I)I" } : MethodName) prog_1_method_21_code (7 : Nat) (Option.some FieldType.int) ∈ ax_tbl := List.mem_filter.mpr ⟨List.mem_of_getElem? (i := 691) (by decide +kernel), rfl⟩
theorem wd_692 : Cond.methodLink "ShadowTailor" (199 : Nat) ({ cls := "ShadowTailor$Sightings", name := "mostAlike", desc := "(LShadowTailor$Street;II)I" } : MethodName) ∈ ax_tbl := List.mem_filter.mpr ⟨List.mem_of_getElem? (i := 692) (by decide +kernel), rfl⟩
theorem wd_693 : Cond.static ({ cls := "ShadowTailor$Sightings", name := "mostAlike", desc := "(LShadowTailor$Street;II)I" } : MethodName) ∈ ax_tbl := List.mem_filter.mpr ⟨List.mem_of_getElem? (i := 693) (by decide +kernel), rfl⟩
theorem wd_694 : Cond.code ({ cls := "ShadowTailor$Sightings", name := "mostAlike", desc := "(LShadowTailor$Street;II)I" } : MethodName) prog_6_method_5_code (8 : Nat) (Option.some FieldType.int) ∈ ax_tbl := List.mem_filter.mpr ⟨List.mem_of_getElem? (i := 694) (by decide +kernel), rfl⟩
theorem wd_695 : Cond.methodLink "ShadowTailor$Sightings" (35 : Nat) ({ cls := "java/lang/Math", name := "max", desc := "(II)I" } : MethodName) ∈ ax_tbl := List.mem_filter.mpr ⟨List.mem_of_getElem? (i := 695) (by decide +kernel), rfl⟩
theorem wd_696 : Cond.methodLink "ShadowTailorLaw" (97 : Nat) ({ cls := "ShadowTailor", name := "cut", desc := "(I)I" } : MethodName) ∈ ax_tbl := List.mem_filter.mpr ⟨List.mem_of_getElem? (i := 696) (by decide +kernel), rfl⟩
theorem wd_697 : Cond.instanceMethod ({ cls := "ShadowTailor", name := "cut", desc := "(I)I" } : MethodName) ∈ ax_tbl := List.mem_filter.mpr ⟨List.mem_of_getElem? (i := 697) (by decide +kernel), rfl⟩
theorem wd_698 : Cond.selects "ShadowTailor" ({ cls := "ShadowTailor", name := "cut", desc := "(I)I" } : MethodName) ({ cls := "ShadowTailor", name := "cut", desc := "(I)I" } : MethodName) ∈ ax_tbl := List.mem_filter.mpr ⟨List.mem_of_getElem? (i := 698) (by decide +kernel), rfl⟩
theorem wd_699 : Cond.code ({ cls := "ShadowTailor", name := "cut", desc := "(I)I" } : MethodName) prog_1_method_22_code (2 : Nat) (Option.some FieldType.int) ∈ ax_tbl := List.mem_filter.mpr ⟨List.mem_of_getElem? (i := 699) (by decide +kernel), rfl⟩
theorem wd_700 : Cond.methodLink "ShadowTailor" (212 : Nat) ({ cls := "ShadowTailor$Cutting", name := "seek", desc := "(LShadowTailor$Stock;)V" } : MethodName) ∈ ax_tbl := List.mem_filter.mpr ⟨List.mem_of_getElem? (i := 700) (by decide +kernel), rfl⟩
theorem wd_701 : Cond.instanceMethod ({ cls := "ShadowTailor$Cutting", name := "seek", desc := "(LShadowTailor$Stock;)V" } : MethodName) ∈ ax_tbl := List.mem_filter.mpr ⟨List.mem_of_getElem? (i := 701) (by decide +kernel), rfl⟩
theorem wd_702 : Cond.selects "ShadowTailor$Cutting" ({ cls := "ShadowTailor$Cutting", name := "seek", desc := "(LShadowTailor$Stock;)V" } : MethodName) ({ cls := "ShadowTailor$Cutting", name := "seek", desc := "(LShadowTailor$Stock;)V" } : MethodName) ∈ ax_tbl := List.mem_filter.mpr ⟨List.mem_of_getElem? (i := 702) (by decide +kernel), rfl⟩
theorem wd_703 : Cond.code ({ cls := "ShadowTailor$Cutting", name := "seek", desc := "(LShadowTailor$Stock;)V" } : MethodName) prog_3_method_2_code (3 : Nat) (Option.none : Option FieldType) ∈ ax_tbl := List.mem_filter.mpr ⟨List.mem_of_getElem? (i := 703) (by decide +kernel), rfl⟩
theorem wd_704 : Cond.methodLink "ShadowTailor$Cutting" (40 : Nat) ({ cls := "ShadowTailor$Cutting", name := "seekFrom", desc := "(LShadowTailor$Stock;III)V" } : MethodName) ∈ ax_tbl := List.mem_filter.mpr ⟨List.mem_of_getElem? (i := 704) (by decide +kernel), rfl⟩
theorem wd_706 : Cond.instanceMethod ({ cls := "ShadowTailor$Cutting", name := "seekFrom", desc := "(LShadowTailor$Stock;III)V" } : MethodName) ∈ ax_tbl := List.mem_filter.mpr ⟨List.mem_of_getElem? (i := 706) (by decide +kernel), rfl⟩
theorem wd_707 : Cond.code ({ cls := "ShadowTailor$Cutting", name := "seekFrom", desc := "(LShadowTailor$Stock;III)V" } : MethodName) prog_3_method_3_code (8 : Nat) (Option.none : Option FieldType) ∈ ax_tbl := List.mem_filter.mpr ⟨List.mem_of_getElem? (i := 707) (by decide +kernel), rfl⟩
theorem wd_708 : Cond.methodLink "ShadowTailor$Cutting" (50 : Nat) ({ cls := "ShadowTailor$Cutting", name := "lackingLength", desc := "(LShadowTailor$Stock;)I" } : MethodName) ∈ ax_tbl := List.mem_filter.mpr ⟨List.mem_of_getElem? (i := 708) (by decide +kernel), rfl⟩
theorem wd_710 : Cond.instanceMethod ({ cls := "ShadowTailor$Cutting", name := "lackingLength", desc := "(LShadowTailor$Stock;)I" } : MethodName) ∈ ax_tbl := List.mem_filter.mpr ⟨List.mem_of_getElem? (i := 710) (by decide +kernel), rfl⟩
theorem wd_711 : Cond.code ({ cls := "ShadowTailor$Cutting", name := "lackingLength", desc := "(LShadowTailor$Stock;)I" } : MethodName) prog_3_method_4_code (4 : Nat) (Option.some FieldType.int) ∈ ax_tbl := List.mem_filter.mpr ⟨List.mem_of_getElem? (i := 711) (by decide +kernel), rfl⟩
theorem wd_712 : Cond.methodLink "ShadowTailor$Cutting" (65 : Nat) ({ cls := "java/lang/Math", name := "max", desc := "(II)I" } : MethodName) ∈ ax_tbl := List.mem_filter.mpr ⟨List.mem_of_getElem? (i := 712) (by decide +kernel), rfl⟩
theorem wd_713 : Cond.methodLink "ShadowTailor$Cutting" (54 : Nat) ({ cls := "ShadowTailor$Cutting", name := "take", desc := "(LShadowTailor$Stock;II)V" } : MethodName) ∈ ax_tbl := List.mem_filter.mpr ⟨List.mem_of_getElem? (i := 713) (by decide +kernel), rfl⟩
theorem wd_715 : Cond.instanceMethod ({ cls := "ShadowTailor$Cutting", name := "take", desc := "(LShadowTailor$Stock;II)V" } : MethodName) ∈ ax_tbl := List.mem_filter.mpr ⟨List.mem_of_getElem? (i := 715) (by decide +kernel), rfl⟩
theorem wd_716 : Cond.code ({ cls := "ShadowTailor$Cutting", name := "take", desc := "(LShadowTailor$Stock;II)V" } : MethodName) prog_3_method_5_code (5 : Nat) (Option.none : Option FieldType) ∈ ax_tbl := List.mem_filter.mpr ⟨List.mem_of_getElem? (i := 716) (by decide +kernel), rfl⟩
theorem wd_717 : Cond.methodLink "ShadowTailor$Cutting" (58 : Nat) ({ cls := "ShadowTailor$Stock", name := "lengthFrom", desc := "(I)I" } : MethodName) ∈ ax_tbl := List.mem_filter.mpr ⟨List.mem_of_getElem? (i := 717) (by decide +kernel), rfl⟩
theorem wd_718 : Cond.instanceMethod ({ cls := "ShadowTailor$Stock", name := "lengthFrom", desc := "(I)I" } : MethodName) ∈ ax_tbl := List.mem_filter.mpr ⟨List.mem_of_getElem? (i := 718) (by decide +kernel), rfl⟩
theorem wd_719 : Cond.selects "ShadowTailor$Stock" ({ cls := "ShadowTailor$Stock", name := "lengthFrom", desc := "(I)I" } : MethodName) ({ cls := "ShadowTailor$Stock", name := "lengthFrom", desc := "(I)I" } : MethodName) ∈ ax_tbl := List.mem_filter.mpr ⟨List.mem_of_getElem? (i := 719) (by decide +kernel), rfl⟩
theorem wd_720 : Cond.code ({ cls := "ShadowTailor$Stock", name := "lengthFrom", desc := "(I)I" } : MethodName) prog_8_method_7_code (4 : Nat) (Option.some FieldType.int) ∈ ax_tbl := List.mem_filter.mpr ⟨List.mem_of_getElem? (i := 720) (by decide +kernel), rfl⟩
theorem wd_721 : Cond.methodLink "ShadowTailor" (228 : Nat) ({ cls := "ShadowTailor$Stock", name := "orderedLength", desc := "()I" } : MethodName) ∈ ax_tbl := List.mem_filter.mpr ⟨List.mem_of_getElem? (i := 721) (by decide +kernel), rfl⟩
theorem wd_722 : Cond.instanceMethod ({ cls := "ShadowTailor$Stock", name := "orderedLength", desc := "()I" } : MethodName) ∈ ax_tbl := List.mem_filter.mpr ⟨List.mem_of_getElem? (i := 722) (by decide +kernel), rfl⟩
theorem wd_723 : Cond.selects "ShadowTailor$Stock" ({ cls := "ShadowTailor$Stock", name := "orderedLength", desc := "()I" } : MethodName) ({ cls := "ShadowTailor$Stock", name := "orderedLength", desc := "()I" } : MethodName) ∈ ax_tbl := List.mem_filter.mpr ⟨List.mem_of_getElem? (i := 723) (by decide +kernel), rfl⟩
theorem wd_724 : Cond.code ({ cls := "ShadowTailor$Stock", name := "orderedLength", desc := "()I" } : MethodName) prog_8_method_6_code (3 : Nat) (Option.some FieldType.int) ∈ ax_tbl := List.mem_filter.mpr ⟨List.mem_of_getElem? (i := 724) (by decide +kernel), rfl⟩
theorem wd_725 : Cond.methodLink "ShadowTailorLaw" (101 : Nat) ({ cls := "ShadowTailor", name := "fittings", desc := "(I)I" } : MethodName) ∈ ax_tbl := List.mem_filter.mpr ⟨List.mem_of_getElem? (i := 725) (by decide +kernel), rfl⟩
theorem wd_726 : Cond.instanceMethod ({ cls := "ShadowTailor", name := "fittings", desc := "(I)I" } : MethodName) ∈ ax_tbl := List.mem_filter.mpr ⟨List.mem_of_getElem? (i := 726) (by decide +kernel), rfl⟩
theorem wd_727 : Cond.selects "ShadowTailor" ({ cls := "ShadowTailor", name := "fittings", desc := "(I)I" } : MethodName) ({ cls := "ShadowTailor", name := "fittings", desc := "(I)I" } : MethodName) ∈ ax_tbl := List.mem_filter.mpr ⟨List.mem_of_getElem? (i := 727) (by decide +kernel), rfl⟩
theorem wd_728 : Cond.code ({ cls := "ShadowTailor", name := "fittings", desc := "(I)I" } : MethodName) prog_1_method_23_code (3 : Nat) (Option.some FieldType.int) ∈ ax_tbl := List.mem_filter.mpr ⟨List.mem_of_getElem? (i := 728) (by decide +kernel), rfl⟩
theorem wd_729 : Cond.methodLink "ShadowTailor" (237 : Nat) ({ cls := "ShadowTailor$Timetable", name := "seek", desc := "(LShadowTailor$Stock;)V" } : MethodName) ∈ ax_tbl := List.mem_filter.mpr ⟨List.mem_of_getElem? (i := 729) (by decide +kernel), rfl⟩
theorem wd_730 : Cond.instanceMethod ({ cls := "ShadowTailor$Timetable", name := "seek", desc := "(LShadowTailor$Stock;)V" } : MethodName) ∈ ax_tbl := List.mem_filter.mpr ⟨List.mem_of_getElem? (i := 730) (by decide +kernel), rfl⟩
theorem wd_731 : Cond.selects "ShadowTailor$Timetable" ({ cls := "ShadowTailor$Timetable", name := "seek", desc := "(LShadowTailor$Stock;)V" } : MethodName) ({ cls := "ShadowTailor$Timetable", name := "seek", desc := "(LShadowTailor$Stock;)V" } : MethodName) ∈ ax_tbl := List.mem_filter.mpr ⟨List.mem_of_getElem? (i := 731) (by decide +kernel), rfl⟩
theorem wd_732 : Cond.code ({ cls := "ShadowTailor$Timetable", name := "seek", desc := "(LShadowTailor$Stock;)V" } : MethodName) prog_12_method_2_code (2 : Nat) (Option.none : Option FieldType) ∈ ax_tbl := List.mem_filter.mpr ⟨List.mem_of_getElem? (i := 732) (by decide +kernel), rfl⟩
theorem wd_733 : Cond.methodLink "ShadowTailor$Timetable" (25 : Nat) ({ cls := "ShadowTailor$Timetable", name := "seekFrom", desc := "(LShadowTailor$Stock;IIIII)V" } : MethodName) ∈ ax_tbl := List.mem_filter.mpr ⟨List.mem_of_getElem? (i := 733) (by decide +kernel), rfl⟩
theorem wd_735 : Cond.instanceMethod ({ cls := "ShadowTailor$Timetable", name := "seekFrom", desc := "(LShadowTailor$Stock;IIIII)V" } : MethodName) ∈ ax_tbl := List.mem_filter.mpr ⟨List.mem_of_getElem? (i := 735) (by decide +kernel), rfl⟩
theorem wd_736 : Cond.code ({ cls := "ShadowTailor$Timetable", name := "seekFrom", desc := "(LShadowTailor$Stock;IIIII)V" } : MethodName) prog_12_method_3_code (10 : Nat) (Option.none : Option FieldType) ∈ ax_tbl := List.mem_filter.mpr ⟨List.mem_of_getElem? (i := 736) (by decide +kernel), rfl⟩
theorem wd_737 : Cond.methodLink "ShadowTailor$Timetable" (41 : Nat) ({ cls := "ShadowTailor$Timetable", name := "take", desc := "(LShadowTailor$Stock;II)V" } : MethodName) ∈ ax_tbl := List.mem_filter.mpr ⟨List.mem_of_getElem? (i := 737) (by decide +kernel), rfl⟩
theorem wd_739 : Cond.instanceMethod ({ cls := "ShadowTailor$Timetable", name := "take", desc := "(LShadowTailor$Stock;II)V" } : MethodName) ∈ ax_tbl := List.mem_filter.mpr ⟨List.mem_of_getElem? (i := 739) (by decide +kernel), rfl⟩
theorem wd_740 : Cond.code ({ cls := "ShadowTailor$Timetable", name := "take", desc := "(LShadowTailor$Stock;II)V" } : MethodName) prog_12_method_4_code (5 : Nat) (Option.none : Option FieldType) ∈ ax_tbl := List.mem_filter.mpr ⟨List.mem_of_getElem? (i := 740) (by decide +kernel), rfl⟩
theorem wd_741 : Cond.methodLink "ShadowTailor$Timetable" (51 : Nat) ({ cls := "java/lang/Math", name := "max", desc := "(II)I" } : MethodName) ∈ ax_tbl := List.mem_filter.mpr ⟨List.mem_of_getElem? (i := 741) (by decide +kernel), rfl⟩
theorem wd_742 : Cond.methodLink "ShadowTailorLaw" (105 : Nat) ({ cls := "ShadowTailor", name := "watchers", desc := "(II)I" } : MethodName) ∈ ax_tbl := List.mem_filter.mpr ⟨List.mem_of_getElem? (i := 742) (by decide +kernel), rfl⟩
theorem wd_743 : Cond.instanceMethod ({ cls := "ShadowTailor", name := "watchers", desc := "(II)I" } : MethodName) ∈ ax_tbl := List.mem_filter.mpr ⟨List.mem_of_getElem? (i := 743) (by decide +kernel), rfl⟩
theorem wd_744 : Cond.selects "ShadowTailor" ({ cls := "ShadowTailor", name := "watchers", desc := "(II)I" } : MethodName) ({ cls := "ShadowTailor", name := "watchers", desc := "(II)I" } : MethodName) ∈ ax_tbl := List.mem_filter.mpr ⟨List.mem_of_getElem? (i := 744) (by decide +kernel), rfl⟩
theorem wd_745 : Cond.code ({ cls := "ShadowTailor", name := "watchers", desc := "(II)I" } : MethodName) prog_1_method_24_code (7 : Nat) (Option.some FieldType.int) ∈ ax_tbl := List.mem_filter.mpr ⟨List.mem_of_getElem? (i := 745) (by decide +kernel), rfl⟩
theorem wd_746 : Cond.methodLink "ShadowTailor" (245 : Nat) ({ cls := "ShadowTailor$Street", name := "nextWatcher", desc := "(II)I" } : MethodName) ∈ ax_tbl := List.mem_filter.mpr ⟨List.mem_of_getElem? (i := 746) (by decide +kernel), rfl⟩
theorem wd_747 : Cond.instanceMethod ({ cls := "ShadowTailor$Street", name := "nextWatcher", desc := "(II)I" } : MethodName) ∈ ax_tbl := List.mem_filter.mpr ⟨List.mem_of_getElem? (i := 747) (by decide +kernel), rfl⟩
theorem wd_748 : Cond.selects "ShadowTailor$Street" ({ cls := "ShadowTailor$Street", name := "nextWatcher", desc := "(II)I" } : MethodName) ({ cls := "ShadowTailor$Street", name := "nextWatcher", desc := "(II)I" } : MethodName) ∈ ax_tbl := List.mem_filter.mpr ⟨List.mem_of_getElem? (i := 748) (by decide +kernel), rfl⟩
theorem wd_749 : Cond.code ({ cls := "ShadowTailor$Street", name := "nextWatcher", desc := "(II)I" } : MethodName) prog_9_method_20_code (5 : Nat) (Option.some FieldType.int) ∈ ax_tbl := List.mem_filter.mpr ⟨List.mem_of_getElem? (i := 749) (by decide +kernel), rfl⟩
theorem wd_750 : Cond.methodLink "ShadowTailor$Street" (110 : Nat) ({ cls := "ShadowTailor$Street", name := "lowEndOf", desc := "(II)I" } : MethodName) ∈ ax_tbl := List.mem_filter.mpr ⟨List.mem_of_getElem? (i := 750) (by decide +kernel), rfl⟩
theorem wd_751 : Cond.methodLink "ShadowTailor$Street" (113 : Nat) ({ cls := "ShadowTailor$Street", name := "highEndOf", desc := "(II)I" } : MethodName) ∈ ax_tbl := List.mem_filter.mpr ⟨List.mem_of_getElem? (i := 751) (by decide +kernel), rfl⟩
theorem wd_752 : Cond.methodLink "ShadowTailor$Street" (116 : Nat) ({ cls := "java/lang/Math", name := "min", desc := "(II)I" } : MethodName) ∈ ax_tbl := List.mem_filter.mpr ⟨List.mem_of_getElem? (i := 752) (by decide +kernel), rfl⟩
theorem wd_753 : Cond.static ({ cls := "java/lang/Math", name := "min", desc := "(II)I" } : MethodName) ∈ ax_tbl := List.mem_filter.mpr ⟨List.mem_of_getElem? (i := 753) (by decide +kernel), rfl⟩
theorem wd_754 : Cond.code ({ cls := "java/lang/Math", name := "min", desc := "(II)I" } : MethodName) prog_16_method_69_code (2 : Nat) (Option.some FieldType.int) ∈ ax_tbl := List.mem_filter.mpr ⟨List.mem_of_getElem? (i := 754) (by decide +kernel), rfl⟩
theorem wd_755 : Cond.methodLink "ShadowTailorLaw" (109 : Nat) ({ cls := "ShadowTailor", name := "poplar", desc := "(II)I" } : MethodName) ∈ ax_tbl := List.mem_filter.mpr ⟨List.mem_of_getElem? (i := 755) (by decide +kernel), rfl⟩
theorem wd_756 : Cond.instanceMethod ({ cls := "ShadowTailor", name := "poplar", desc := "(II)I" } : MethodName) ∈ ax_tbl := List.mem_filter.mpr ⟨List.mem_of_getElem? (i := 756) (by decide +kernel), rfl⟩
theorem wd_757 : Cond.selects "ShadowTailor" ({ cls := "ShadowTailor", name := "poplar", desc := "(II)I" } : MethodName) ({ cls := "ShadowTailor", name := "poplar", desc := "(II)I" } : MethodName) ∈ ax_tbl := List.mem_filter.mpr ⟨List.mem_of_getElem? (i := 757) (by decide +kernel), rfl⟩
theorem wd_758 : Cond.code ({ cls := "ShadowTailor", name := "poplar", desc := "(II)I" } : MethodName) prog_1_method_25_code (3 : Nat) (Option.some FieldType.int) ∈ ax_tbl := List.mem_filter.mpr ⟨List.mem_of_getElem? (i := 758) (by decide +kernel), rfl⟩
theorem wd_759 : Cond.methodLink "ShadowTailorLaw" (113 : Nat) ({ cls := "ShadowTailor", name := "light", desc := "(I)I" } : MethodName) ∈ ax_tbl := List.mem_filter.mpr ⟨List.mem_of_getElem? (i := 759) (by decide +kernel), rfl⟩
theorem wd_760 : Cond.instanceMethod ({ cls := "ShadowTailor", name := "light", desc := "(I)I" } : MethodName) ∈ ax_tbl := List.mem_filter.mpr ⟨List.mem_of_getElem? (i := 760) (by decide +kernel), rfl⟩
theorem wd_761 : Cond.selects "ShadowTailor" ({ cls := "ShadowTailor", name := "light", desc := "(I)I" } : MethodName) ({ cls := "ShadowTailor", name := "light", desc := "(I)I" } : MethodName) ∈ ax_tbl := List.mem_filter.mpr ⟨List.mem_of_getElem? (i := 761) (by decide +kernel), rfl⟩
theorem wd_762 : Cond.code ({ cls := "ShadowTailor", name := "light", desc := "(I)I" } : MethodName) prog_1_method_26_code (4 : Nat) (Option.some FieldType.int) ∈ ax_tbl := List.mem_filter.mpr ⟨List.mem_of_getElem? (i := 762) (by decide +kernel), rfl⟩
theorem wd_763 : Cond.methodLink "ShadowTailorLaw" (117 : Nat) ({ cls := "ShadowTailor", name := "clouds", desc := "(IIIII)J" } : MethodName) ∈ ax_tbl := List.mem_filter.mpr ⟨List.mem_of_getElem? (i := 763) (by decide +kernel), rfl⟩
theorem wd_764 : Cond.instanceMethod ({ cls := "ShadowTailor", name := "clouds", desc := "(IIIII)J" } : MethodName) ∈ ax_tbl := List.mem_filter.mpr ⟨List.mem_of_getElem? (i := 764) (by decide +kernel), rfl⟩
theorem wd_765 : Cond.selects "ShadowTailor" ({ cls := "ShadowTailor", name := "clouds", desc := "(IIIII)J" } : MethodName) ({ cls := "ShadowTailor", name := "clouds", desc := "(IIIII)J" } : MethodName) ∈ ax_tbl := List.mem_filter.mpr ⟨List.mem_of_getElem? (i := 765) (by decide +kernel), rfl⟩
theorem wd_766 : Cond.code ({ cls := "ShadowTailor", name := "clouds", desc := "(IIIII)J" } : MethodName) prog_1_method_27_code (12 : Nat) (Option.some FieldType.long) ∈ ax_tbl := List.mem_filter.mpr ⟨List.mem_of_getElem? (i := 766) (by decide +kernel), rfl⟩
theorem wd_767 : Cond.constantLong "ShadowTailor" (248 : Nat) (-1 : Int64) ∈ ax_tbl := List.mem_filter.mpr ⟨List.mem_of_getElem? (i := 767) (by decide +kernel), rfl⟩
theorem wd_768 : Cond.methodLink "ShadowTailor" (250 : Nat) ({ cls := "ShadowTailor", name := "commonDivisor", desc := "(II)I" } : MethodName) ∈ ax_tbl := List.mem_filter.mpr ⟨List.mem_of_getElem? (i := 768) (by decide +kernel), rfl⟩
theorem wd_769 : Cond.static ({ cls := "ShadowTailor", name := "commonDivisor", desc := "(II)I" } : MethodName) ∈ ax_tbl := List.mem_filter.mpr ⟨List.mem_of_getElem? (i := 769) (by decide +kernel), rfl⟩
theorem wd_770 : Cond.code ({ cls := "ShadowTailor", name := "commonDivisor", desc := "(II)I" } : MethodName) prog_1_method_38_code (3 : Nat) (Option.some FieldType.int) ∈ ax_tbl := List.mem_filter.mpr ⟨List.mem_of_getElem? (i := 770) (by decide +kernel), rfl⟩
theorem wd_771 : Cond.methodLink "ShadowTailorLaw" (122 : Nat) ({ cls := "ShadowTailor", name := "day", desc := "(II)I" } : MethodName) ∈ ax_tbl := List.mem_filter.mpr ⟨List.mem_of_getElem? (i := 771) (by decide +kernel), rfl⟩
theorem wd_772 : Cond.instanceMethod ({ cls := "ShadowTailor", name := "day", desc := "(II)I" } : MethodName) ∈ ax_tbl := List.mem_filter.mpr ⟨List.mem_of_getElem? (i := 772) (by decide +kernel), rfl⟩
theorem wd_773 : Cond.selects "ShadowTailor" ({ cls := "ShadowTailor", name := "day", desc := "(II)I" } : MethodName) ({ cls := "ShadowTailor", name := "day", desc := "(II)I" } : MethodName) ∈ ax_tbl := List.mem_filter.mpr ⟨List.mem_of_getElem? (i := 773) (by decide +kernel), rfl⟩
theorem wd_774 : Cond.code ({ cls := "ShadowTailor", name := "day", desc := "(II)I" } : MethodName) prog_1_method_28_code (8 : Nat) (Option.some FieldType.int) ∈ ax_tbl := List.mem_filter.mpr ⟨List.mem_of_getElem? (i := 774) (by decide +kernel), rfl⟩
theorem wd_775 : Cond.methodLink "ShadowTailor" (253 : Nat) ({ cls := "ShadowTailor$Street", name := "drawnCells", desc := "(II)[I" } : MethodName) ∈ ax_tbl := List.mem_filter.mpr ⟨List.mem_of_getElem? (i := 775) (by decide +kernel), rfl⟩
theorem wd_776 : Cond.instanceMethod ({ cls := "ShadowTailor$Street", name := "drawnCells", desc := "(II)[I" } : MethodName) ∈ ax_tbl := List.mem_filter.mpr ⟨List.mem_of_getElem? (i := 776) (by decide +kernel), rfl⟩
theorem wd_777 : Cond.selects "ShadowTailor$Street" ({ cls := "ShadowTailor$Street", name := "drawnCells", desc := "(II)[I" } : MethodName) ({ cls := "ShadowTailor$Street", name := "drawnCells", desc := "(II)[I" } : MethodName) ∈ ax_tbl := List.mem_filter.mpr ⟨List.mem_of_getElem? (i := 777) (by decide +kernel), rfl⟩
theorem wd_778 : Cond.code ({ cls := "ShadowTailor$Street", name := "drawnCells", desc := "(II)[I" } : MethodName) prog_9_method_8_code (6 : Nat) (Option.some (FieldType.array FieldType.int)) ∈ ax_tbl := List.mem_filter.mpr ⟨List.mem_of_getElem? (i := 778) (by decide +kernel), rfl⟩
theorem wd_779 : Cond.constantLong "ShadowTailor$Street" (75 : Nat) (7919 : Int64) ∈ ax_tbl := List.mem_filter.mpr ⟨List.mem_of_getElem? (i := 779) (by decide +kernel), rfl⟩
theorem wd_780 : Cond.constantLong "ShadowTailor$Street" (77 : Nat) (6151 : Int64) ∈ ax_tbl := List.mem_filter.mpr ⟨List.mem_of_getElem? (i := 780) (by decide +kernel), rfl⟩
theorem wd_781 : Cond.constantLong "ShadowTailor$Street" (79 : Nat) (3571 : Int64) ∈ ax_tbl := List.mem_filter.mpr ⟨List.mem_of_getElem? (i := 781) (by decide +kernel), rfl⟩
theorem wd_782 : Cond.constantLong "ShadowTailor$Street" (81 : Nat) (65521 : Int64) ∈ ax_tbl := List.mem_filter.mpr ⟨List.mem_of_getElem? (i := 782) (by decide +kernel), rfl⟩
theorem wd_783 : Cond.constantLong "ShadowTailor$Street" (83 : Nat) (61 : Int64) ∈ ax_tbl := List.mem_filter.mpr ⟨List.mem_of_getElem? (i := 783) (by decide +kernel), rfl⟩
theorem wd_784 : Cond.methodLink "ShadowTailorLaw" (126 : Nat) ({ cls := "ShadowTailor", name := "keep", desc := "()I" } : MethodName) ∈ ax_tbl := List.mem_filter.mpr ⟨List.mem_of_getElem? (i := 784) (by decide +kernel), rfl⟩
theorem wd_785 : Cond.instanceMethod ({ cls := "ShadowTailor", name := "keep", desc := "()I" } : MethodName) ∈ ax_tbl := List.mem_filter.mpr ⟨List.mem_of_getElem? (i := 785) (by decide +kernel), rfl⟩
theorem wd_786 : Cond.selects "ShadowTailor" ({ cls := "ShadowTailor", name := "keep", desc := "()I" } : MethodName) ({ cls := "ShadowTailor", name := "keep", desc := "()I" } : MethodName) ∈ ax_tbl := List.mem_filter.mpr ⟨List.mem_of_getElem? (i := 786) (by decide +kernel), rfl⟩
theorem wd_787 : Cond.code ({ cls := "ShadowTailor", name := "keep", desc := "()I" } : MethodName) prog_1_method_29_code (1 : Nat) (Option.some FieldType.int) ∈ ax_tbl := List.mem_filter.mpr ⟨List.mem_of_getElem? (i := 787) (by decide +kernel), rfl⟩
theorem wd_788 : Cond.methodLink "ShadowTailor" (261 : Nat) ({ cls := "ShadowTailor$Kept", name := "add", desc := "(LShadowTailor$State;)Z" } : MethodName) ∈ ax_tbl := List.mem_filter.mpr ⟨List.mem_of_getElem? (i := 788) (by decide +kernel), rfl⟩
theorem wd_789 : Cond.instanceMethod ({ cls := "ShadowTailor$Kept", name := "add", desc := "(LShadowTailor$State;)Z" } : MethodName) ∈ ax_tbl := List.mem_filter.mpr ⟨List.mem_of_getElem? (i := 789) (by decide +kernel), rfl⟩
theorem wd_790 : Cond.selects "ShadowTailor$Kept" ({ cls := "ShadowTailor$Kept", name := "add", desc := "(LShadowTailor$State;)Z" } : MethodName) ({ cls := "ShadowTailor$Kept", name := "add", desc := "(LShadowTailor$State;)Z" } : MethodName) ∈ ax_tbl := List.mem_filter.mpr ⟨List.mem_of_getElem? (i := 790) (by decide +kernel), rfl⟩
theorem wd_791 : Cond.code ({ cls := "ShadowTailor$Kept", name := "add", desc := "(LShadowTailor$State;)Z" } : MethodName) prog_4_method_2_code (2 : Nat) (Option.some FieldType.boolean) ∈ ax_tbl := List.mem_filter.mpr ⟨List.mem_of_getElem? (i := 791) (by decide +kernel), rfl⟩
theorem wd_792 : Cond.methodLink "ShadowTailor$Kept" (22 : Nat) ({ cls := "ShadowTailor$State", name := "copyFrom", desc := "(LShadowTailor$State;)V" } : MethodName) ∈ ax_tbl := List.mem_filter.mpr ⟨List.mem_of_getElem? (i := 792) (by decide +kernel), rfl⟩
theorem wd_793 : Cond.instanceMethod ({ cls := "ShadowTailor$State", name := "copyFrom", desc := "(LShadowTailor$State;)V" } : MethodName) ∈ ax_tbl := List.mem_filter.mpr ⟨List.mem_of_getElem? (i := 793) (by decide +kernel), rfl⟩
theorem wd_794 : Cond.selects "ShadowTailor$State" ({ cls := "ShadowTailor$State", name := "copyFrom", desc := "(LShadowTailor$State;)V" } : MethodName) ({ cls := "ShadowTailor$State", name := "copyFrom", desc := "(LShadowTailor$State;)V" } : MethodName) ∈ ax_tbl := List.mem_filter.mpr ⟨List.mem_of_getElem? (i := 794) (by decide +kernel), rfl⟩
theorem wd_795 : Cond.code ({ cls := "ShadowTailor$State", name := "copyFrom", desc := "(LShadowTailor$State;)V" } : MethodName) prog_7_method_4_code (2 : Nat) (Option.none : Option FieldType) ∈ ax_tbl := List.mem_filter.mpr ⟨List.mem_of_getElem? (i := 795) (by decide +kernel), rfl⟩
theorem wd_796 : Cond.methodLink "ShadowTailor$State" (28 : Nat) ({ cls := "java/lang/System", name := "arraycopy", desc := "(Ljava/lang/Object;ILjava/lang/Object;II)V" } : MethodName) ∈ ax_tbl := List.mem_filter.mpr ⟨List.mem_of_getElem? (i := 796) (by decide +kernel), rfl⟩
theorem wd_797 : Cond.static ({ cls := "java/lang/System", name := "arraycopy", desc := "(Ljava/lang/Object;ILjava/lang/Object;II)V" } : MethodName) ∈ ax_tbl := List.mem_filter.mpr ⟨List.mem_of_getElem? (i := 797) (by decide +kernel), rfl⟩
theorem wd_798 : Cond.native ({ cls := "java/lang/System", name := "arraycopy", desc := "(Ljava/lang/Object;ILjava/lang/Object;II)V" } : MethodName) ∈ ax_tbl := List.mem_filter.mpr ⟨List.mem_of_getElem? (i := 798) (by decide +kernel), rfl⟩
theorem wd_799 : Cond.methodLink "ShadowTailorLaw" (130 : Nat) ({ cls := "ShadowTailor", name := "back", desc := "()I" } : MethodName) ∈ ax_tbl := List.mem_filter.mpr ⟨List.mem_of_getElem? (i := 799) (by decide +kernel), rfl⟩
theorem wd_800 : Cond.instanceMethod ({ cls := "ShadowTailor", name := "back", desc := "()I" } : MethodName) ∈ ax_tbl := List.mem_filter.mpr ⟨List.mem_of_getElem? (i := 800) (by decide +kernel), rfl⟩
theorem wd_801 : Cond.selects "ShadowTailor" ({ cls := "ShadowTailor", name := "back", desc := "()I" } : MethodName) ({ cls := "ShadowTailor", name := "back", desc := "()I" } : MethodName) ∈ ax_tbl := List.mem_filter.mpr ⟨List.mem_of_getElem? (i := 801) (by decide +kernel), rfl⟩
theorem wd_802 : Cond.code ({ cls := "ShadowTailor", name := "back", desc := "()I" } : MethodName) prog_1_method_30_code (1 : Nat) (Option.some FieldType.int) ∈ ax_tbl := List.mem_filter.mpr ⟨List.mem_of_getElem? (i := 802) (by decide +kernel), rfl⟩
theorem wd_803 : Cond.methodLink "ShadowTailor" (263 : Nat) ({ cls := "ShadowTailor$Kept", name := "restore", desc := "(LShadowTailor$State;)Z" } : MethodName) ∈ ax_tbl := List.mem_filter.mpr ⟨List.mem_of_getElem? (i := 803) (by decide +kernel), rfl⟩
theorem wd_804 : Cond.instanceMethod ({ cls := "ShadowTailor$Kept", name := "restore", desc := "(LShadowTailor$State;)Z" } : MethodName) ∈ ax_tbl := List.mem_filter.mpr ⟨List.mem_of_getElem? (i := 804) (by decide +kernel), rfl⟩
theorem wd_805 : Cond.selects "ShadowTailor$Kept" ({ cls := "ShadowTailor$Kept", name := "restore", desc := "(LShadowTailor$State;)Z" } : MethodName) ({ cls := "ShadowTailor$Kept", name := "restore", desc := "(LShadowTailor$State;)Z" } : MethodName) ∈ ax_tbl := List.mem_filter.mpr ⟨List.mem_of_getElem? (i := 805) (by decide +kernel), rfl⟩
theorem wd_806 : Cond.code ({ cls := "ShadowTailor$Kept", name := "restore", desc := "(LShadowTailor$State;)Z" } : MethodName) prog_4_method_3_code (2 : Nat) (Option.some FieldType.boolean) ∈ ax_tbl := List.mem_filter.mpr ⟨List.mem_of_getElem? (i := 806) (by decide +kernel), rfl⟩
theorem wd_807 : Cond.methodLink "ShadowTailorLaw" (134 : Nat) ({ cls := "ShadowTailor", name := "count", desc := "(I)I" } : MethodName) ∈ ax_tbl := List.mem_filter.mpr ⟨List.mem_of_getElem? (i := 807) (by decide +kernel), rfl⟩
theorem wd_808 : Cond.instanceMethod ({ cls := "ShadowTailor", name := "count", desc := "(I)I" } : MethodName) ∈ ax_tbl := List.mem_filter.mpr ⟨List.mem_of_getElem? (i := 808) (by decide +kernel), rfl⟩
theorem wd_809 : Cond.selects "ShadowTailor" ({ cls := "ShadowTailor", name := "count", desc := "(I)I" } : MethodName) ({ cls := "ShadowTailor", name := "count", desc := "(I)I" } : MethodName) ∈ ax_tbl := List.mem_filter.mpr ⟨List.mem_of_getElem? (i := 809) (by decide +kernel), rfl⟩
theorem wd_810 : Cond.code ({ cls := "ShadowTailor", name := "count", desc := "(I)I" } : MethodName) prog_1_method_31_code (2 : Nat) (Option.some FieldType.int) ∈ ax_tbl := List.mem_filter.mpr ⟨List.mem_of_getElem? (i := 810) (by decide +kernel), rfl⟩
theorem wd_811 : Cond.classLink "ShadowTailorLaw" (10 : Nat) "ShadowTailorModel" ∈ ax_tbl := List.mem_filter.mpr ⟨List.mem_of_getElem? (i := 811) (by decide +kernel), rfl⟩
theorem wd_812 : Cond.instantiable "ShadowTailorModel" (38 : Nat) ∈ ax_tbl := List.mem_filter.mpr ⟨List.mem_of_getElem? (i := 812) (by decide +kernel), rfl⟩
theorem wd_813 : Cond.methodLink "ShadowTailorLaw" (12 : Nat) ({ cls := "ShadowTailorModel", name := "<init>", desc := "()V" } : MethodName) ∈ ax_tbl := List.mem_filter.mpr ⟨List.mem_of_getElem? (i := 813) (by decide +kernel), rfl⟩
theorem wd_814 : Cond.instanceMethod ({ cls := "ShadowTailorModel", name := "<init>", desc := "()V" } : MethodName) ∈ ax_tbl := List.mem_filter.mpr ⟨List.mem_of_getElem? (i := 814) (by decide +kernel), rfl⟩
theorem wd_815 : Cond.code ({ cls := "ShadowTailorModel", name := "<init>", desc := "()V" } : MethodName) prog_14_method_1_code (1 : Nat) (Option.none : Option FieldType) ∈ ax_tbl := List.mem_filter.mpr ⟨List.mem_of_getElem? (i := 815) (by decide +kernel), rfl⟩
theorem wd_816 : Cond.methodLink "ShadowTailorModel" (1 : Nat) ({ cls := "java/lang/Object", name := "<init>", desc := "()V" } : MethodName) ∈ ax_tbl := List.mem_filter.mpr ⟨List.mem_of_getElem? (i := 816) (by decide +kernel), rfl⟩
theorem wd_817 : Cond.methodLink "ShadowTailorModel" (83 : Nat) ({ cls := "ShadowTailorModel", name := "lays", desc := "([IIIII)V" } : MethodName) ∈ ax_tbl := List.mem_filter.mpr ⟨List.mem_of_getElem? (i := 817) (by decide +kernel), rfl⟩
theorem wd_818 : Cond.static ({ cls := "ShadowTailorModel", name := "lays", desc := "([IIIII)V" } : MethodName) ∈ ax_tbl := List.mem_filter.mpr ⟨List.mem_of_getElem? (i := 818) (by decide +kernel), rfl⟩
theorem wd_819 : Cond.code ({ cls := "ShadowTailorModel", name := "lays", desc := "([IIIII)V" } : MethodName) prog_14_method_3_code (5 : Nat) (Option.none : Option FieldType) ∈ ax_tbl := List.mem_filter.mpr ⟨List.mem_of_getElem? (i := 819) (by decide +kernel), rfl⟩
theorem wd_820 : Cond.fieldLink "ShadowTailorModel" (7 : Nat) "ShadowTailorModel" "persons" "I" ∈ ax_tbl := List.mem_filter.mpr ⟨List.mem_of_getElem? (i := 820) (by decide +kernel), rfl⟩
theorem wd_821 : Cond.fieldLink "ShadowTailorModel" (13 : Nat) "ShadowTailorModel" "person" "[I" ∈ ax_tbl := List.mem_filter.mpr ⟨List.mem_of_getElem? (i := 821) (by decide +kernel), rfl⟩
theorem wd_822 : Cond.fieldLink "ShadowTailorModel" (17 : Nat) "ShadowTailorModel" "laws" "I" ∈ ax_tbl := List.mem_filter.mpr ⟨List.mem_of_getElem? (i := 822) (by decide +kernel), rfl⟩
theorem wd_823 : Cond.fieldLink "ShadowTailorModel" (20 : Nat) "ShadowTailorModel" "law" "[I" ∈ ax_tbl := List.mem_filter.mpr ⟨List.mem_of_getElem? (i := 823) (by decide +kernel), rfl⟩
theorem wd_824 : Cond.fieldLink "ShadowTailorModel" (23 : Nat) "ShadowTailorModel" "remnants" "I" ∈ ax_tbl := List.mem_filter.mpr ⟨List.mem_of_getElem? (i := 824) (by decide +kernel), rfl⟩
theorem wd_825 : Cond.fieldLink "ShadowTailorModel" (26 : Nat) "ShadowTailorModel" "remnant" "[I" ∈ ax_tbl := List.mem_filter.mpr ⟨List.mem_of_getElem? (i := 825) (by decide +kernel), rfl⟩
theorem wd_826 : Cond.fieldLink "ShadowTailorModel" (29 : Nat) "ShadowTailorModel" "orders" "I" ∈ ax_tbl := List.mem_filter.mpr ⟨List.mem_of_getElem? (i := 826) (by decide +kernel), rfl⟩
theorem wd_827 : Cond.fieldLink "ShadowTailorModel" (32 : Nat) "ShadowTailorModel" "order" "[I" ∈ ax_tbl := List.mem_filter.mpr ⟨List.mem_of_getElem? (i := 827) (by decide +kernel), rfl⟩
theorem wd_828 : Cond.fieldLink "ShadowTailorModel" (35 : Nat) "ShadowTailorModel" "fittings" "I" ∈ ax_tbl := List.mem_filter.mpr ⟨List.mem_of_getElem? (i := 828) (by decide +kernel), rfl⟩
theorem wd_829 : Cond.fieldLink "ShadowTailorModel" (38 : Nat) "ShadowTailorModel" "fitting" "[I" ∈ ax_tbl := List.mem_filter.mpr ⟨List.mem_of_getElem? (i := 829) (by decide +kernel), rfl⟩
theorem wd_830 : Cond.fieldLink "ShadowTailorModel" (41 : Nat) "ShadowTailorModel" "st" "[I" ∈ ax_tbl := List.mem_filter.mpr ⟨List.mem_of_getElem? (i := 830) (by decide +kernel), rfl⟩
theorem wd_831 : Cond.fieldLink "ShadowTailorModel" (159 : Nat) "ShadowTailorModel" "acts" "I" ∈ ax_tbl := List.mem_filter.mpr ⟨List.mem_of_getElem? (i := 831) (by decide +kernel), rfl⟩
theorem wd_832 : Cond.fieldLink "ShadowTailorModel" (44 : Nat) "ShadowTailorModel" "was" "[I" ∈ ax_tbl := List.mem_filter.mpr ⟨List.mem_of_getElem? (i := 832) (by decide +kernel), rfl⟩
theorem wd_833 : Cond.fieldLink "ShadowTailorModel" (162 : Nat) "ShadowTailorModel" "keeps" "I" ∈ ax_tbl := List.mem_filter.mpr ⟨List.mem_of_getElem? (i := 833) (by decide +kernel), rfl⟩
theorem wd_834 : Cond.fieldLink "ShadowTailorModel" (47 : Nat) "ShadowTailorModel" "kept" "[I" ∈ ax_tbl := List.mem_filter.mpr ⟨List.mem_of_getElem? (i := 834) (by decide +kernel), rfl⟩
theorem wd_835 : Cond.fieldLink "ShadowTailorModel" (165 : Nat) "ShadowTailorModel" "seens" "I" ∈ ax_tbl := List.mem_filter.mpr ⟨List.mem_of_getElem? (i := 835) (by decide +kernel), rfl⟩
theorem wd_836 : Cond.fieldLink "ShadowTailorModel" (50 : Nat) "ShadowTailorModel" "seen" "[I" ∈ ax_tbl := List.mem_filter.mpr ⟨List.mem_of_getElem? (i := 836) (by decide +kernel), rfl⟩
theorem wd_837 : Cond.fieldLink "ShadowTailorModel" (53 : Nat) "ShadowTailorModel" "text" "[I" ∈ ax_tbl := List.mem_filter.mpr ⟨List.mem_of_getElem? (i := 837) (by decide +kernel), rfl⟩
theorem wd_838 : Cond.fieldLink "ShadowTailorModel" (91 : Nat) "ShadowTailorModel" "texted" "I" ∈ ax_tbl := List.mem_filter.mpr ⟨List.mem_of_getElem? (i := 838) (by decide +kernel), rfl⟩
theorem wd_839 : Cond.fieldLink "ShadowTailorModel" (94 : Nat) "ShadowTailorModel" "at" "I" ∈ ax_tbl := List.mem_filter.mpr ⟨List.mem_of_getElem? (i := 839) (by decide +kernel), rfl⟩
theorem wd_840 : Cond.fieldLink "ShadowTailorModel" (56 : Nat) "ShadowTailorModel" "told" "[I" ∈ ax_tbl := List.mem_filter.mpr ⟨List.mem_of_getElem? (i := 840) (by decide +kernel), rfl⟩
theorem wd_841 : Cond.fieldLink "ShadowTailorModel" (105 : Nat) "ShadowTailorModel" "readPersons" "I" ∈ ax_tbl := List.mem_filter.mpr ⟨List.mem_of_getElem? (i := 841) (by decide +kernel), rfl⟩
theorem wd_842 : Cond.fieldLink "ShadowTailorModel" (59 : Nat) "ShadowTailorModel" "readPerson" "[I" ∈ ax_tbl := List.mem_filter.mpr ⟨List.mem_of_getElem? (i := 842) (by decide +kernel), rfl⟩
theorem wd_843 : Cond.fieldLink "ShadowTailorModel" (122 : Nat) "ShadowTailorModel" "readLaws" "I" ∈ ax_tbl := List.mem_filter.mpr ⟨List.mem_of_getElem? (i := 843) (by decide +kernel), rfl⟩
theorem wd_844 : Cond.fieldLink "ShadowTailorModel" (62 : Nat) "ShadowTailorModel" "readLaw" "[I" ∈ ax_tbl := List.mem_filter.mpr ⟨List.mem_of_getElem? (i := 844) (by decide +kernel), rfl⟩
theorem wd_845 : Cond.fieldLink "ShadowTailorModel" (125 : Nat) "ShadowTailorModel" "readRemnants" "I" ∈ ax_tbl := List.mem_filter.mpr ⟨List.mem_of_getElem? (i := 845) (by decide +kernel), rfl⟩
theorem wd_846 : Cond.fieldLink "ShadowTailorModel" (65 : Nat) "ShadowTailorModel" "readRemnant" "[I" ∈ ax_tbl := List.mem_filter.mpr ⟨List.mem_of_getElem? (i := 846) (by decide +kernel), rfl⟩
theorem wd_847 : Cond.fieldLink "ShadowTailorModel" (128 : Nat) "ShadowTailorModel" "readOrders" "I" ∈ ax_tbl := List.mem_filter.mpr ⟨List.mem_of_getElem? (i := 847) (by decide +kernel), rfl⟩
theorem wd_848 : Cond.fieldLink "ShadowTailorModel" (68 : Nat) "ShadowTailorModel" "readOrder" "[I" ∈ ax_tbl := List.mem_filter.mpr ⟨List.mem_of_getElem? (i := 848) (by decide +kernel), rfl⟩
theorem wd_849 : Cond.fieldLink "ShadowTailorModel" (131 : Nat) "ShadowTailorModel" "readFittings" "I" ∈ ax_tbl := List.mem_filter.mpr ⟨List.mem_of_getElem? (i := 849) (by decide +kernel), rfl⟩
theorem wd_850 : Cond.fieldLink "ShadowTailorModel" (71 : Nat) "ShadowTailorModel" "readFitting" "[I" ∈ ax_tbl := List.mem_filter.mpr ⟨List.mem_of_getElem? (i := 850) (by decide +kernel), rfl⟩
theorem wd_851 : Cond.fieldLink "ShadowTailorModel" (74 : Nat) "ShadowTailorModel" "readSt" "[I" ∈ ax_tbl := List.mem_filter.mpr ⟨List.mem_of_getElem? (i := 851) (by decide +kernel), rfl⟩
theorem wd_852 : Cond.fieldLink "ShadowTailorModel" (77 : Nat) "ShadowTailorModel" "goes" "[I" ∈ ax_tbl := List.mem_filter.mpr ⟨List.mem_of_getElem? (i := 852) (by decide +kernel), rfl⟩
theorem wd_853 : Cond.fieldLink "ShadowTailorModel" (226 : Nat) "ShadowTailorModel" "seams" "I" ∈ ax_tbl := List.mem_filter.mpr ⟨List.mem_of_getElem? (i := 853) (by decide +kernel), rfl⟩
theorem wd_854 : Cond.fieldLink "ShadowTailorModel" (229 : Nat) "ShadowTailorModel" "waste" "I" ∈ ax_tbl := List.mem_filter.mpr ⟨List.mem_of_getElem? (i := 854) (by decide +kernel), rfl⟩
theorem wd_855 : Cond.fieldLink "ShadowTailorModel" (80 : Nat) "ShadowTailorModel" "row" "[I" ∈ ax_tbl := List.mem_filter.mpr ⟨List.mem_of_getElem? (i := 855) (by decide +kernel), rfl⟩
theorem wd_856 : Cond.fieldLink "ShadowTailorModel" (235 : Nat) "ShadowTailorModel" "late" "I" ∈ ax_tbl := List.mem_filter.mpr ⟨List.mem_of_getElem? (i := 856) (by decide +kernel), rfl⟩
theorem wd_857 : Cond.fieldLink "ShadowTailorModel" (238 : Nat) "ShadowTailorModel" "hours" "I" ∈ ax_tbl := List.mem_filter.mpr ⟨List.mem_of_getElem? (i := 857) (by decide +kernel), rfl⟩
theorem wd_935 : Cond.methodLink "ShadowTailorLaw" (17 : Nat) ({ cls := "ShadowTailorModel", name := "write", desc := "(I)I" } : MethodName) ∈ ax_tbl := List.mem_filter.mpr ⟨List.mem_of_getElem? (i := 935) (by decide +kernel), rfl⟩
theorem wd_936 : Cond.instanceMethod ({ cls := "ShadowTailorModel", name := "write", desc := "(I)I" } : MethodName) ∈ ax_tbl := List.mem_filter.mpr ⟨List.mem_of_getElem? (i := 936) (by decide +kernel), rfl⟩
theorem wd_937 : Cond.selects "ShadowTailorModel" ({ cls := "ShadowTailorModel", name := "write", desc := "(I)I" } : MethodName) ({ cls := "ShadowTailorModel", name := "write", desc := "(I)I" } : MethodName) ∈ ax_tbl := List.mem_filter.mpr ⟨List.mem_of_getElem? (i := 937) (by decide +kernel), rfl⟩
theorem wd_938 : Cond.code ({ cls := "ShadowTailorModel", name := "write", desc := "(I)I" } : MethodName) prog_14_method_9_code (2 : Nat) (Option.some FieldType.int) ∈ ax_tbl := List.mem_filter.mpr ⟨List.mem_of_getElem? (i := 938) (by decide +kernel), rfl⟩
theorem wd_939 : Cond.methodLink "ShadowTailorModel" (87 : Nat) ({ cls := "ShadowTailorModel", name := "in", desc := "(III)Z" } : MethodName) ∈ ax_tbl := List.mem_filter.mpr ⟨List.mem_of_getElem? (i := 939) (by decide +kernel), rfl⟩
theorem wd_940 : Cond.static ({ cls := "ShadowTailorModel", name := "in", desc := "(III)Z" } : MethodName) ∈ ax_tbl := List.mem_filter.mpr ⟨List.mem_of_getElem? (i := 940) (by decide +kernel), rfl⟩
theorem wd_941 : Cond.code ({ cls := "ShadowTailorModel", name := "in", desc := "(III)Z" } : MethodName) prog_14_method_4_code (3 : Nat) (Option.some FieldType.boolean) ∈ ax_tbl := List.mem_filter.mpr ⟨List.mem_of_getElem? (i := 941) (by decide +kernel), rfl⟩
theorem wd_942 : Cond.methodLink "ShadowTailorLaw" (22 : Nat) ({ cls := "ShadowTailorModel", name := "wipe", desc := "()I" } : MethodName) ∈ ax_tbl := List.mem_filter.mpr ⟨List.mem_of_getElem? (i := 942) (by decide +kernel), rfl⟩
theorem wd_943 : Cond.instanceMethod ({ cls := "ShadowTailorModel", name := "wipe", desc := "()I" } : MethodName) ∈ ax_tbl := List.mem_filter.mpr ⟨List.mem_of_getElem? (i := 943) (by decide +kernel), rfl⟩
theorem wd_944 : Cond.selects "ShadowTailorModel" ({ cls := "ShadowTailorModel", name := "wipe", desc := "()I" } : MethodName) ({ cls := "ShadowTailorModel", name := "wipe", desc := "()I" } : MethodName) ∈ ax_tbl := List.mem_filter.mpr ⟨List.mem_of_getElem? (i := 944) (by decide +kernel), rfl⟩
theorem wd_945 : Cond.code ({ cls := "ShadowTailorModel", name := "wipe", desc := "()I" } : MethodName) prog_14_method_10_code (2 : Nat) (Option.some FieldType.int) ∈ ax_tbl := List.mem_filter.mpr ⟨List.mem_of_getElem? (i := 945) (by decide +kernel), rfl⟩
theorem wd_946 : Cond.methodLink "ShadowTailorLaw" (26 : Nat) ({ cls := "ShadowTailorModel", name := "fault", desc := "()I" } : MethodName) ∈ ax_tbl := List.mem_filter.mpr ⟨List.mem_of_getElem? (i := 946) (by decide +kernel), rfl⟩
theorem wd_947 : Cond.instanceMethod ({ cls := "ShadowTailorModel", name := "fault", desc := "()I" } : MethodName) ∈ ax_tbl := List.mem_filter.mpr ⟨List.mem_of_getElem? (i := 947) (by decide +kernel), rfl⟩
theorem wd_948 : Cond.selects "ShadowTailorModel" ({ cls := "ShadowTailorModel", name := "fault", desc := "()I" } : MethodName) ({ cls := "ShadowTailorModel", name := "fault", desc := "()I" } : MethodName) ∈ ax_tbl := List.mem_filter.mpr ⟨List.mem_of_getElem? (i := 948) (by decide +kernel), rfl⟩
theorem wd_949 : Cond.code ({ cls := "ShadowTailorModel", name := "fault", desc := "()I" } : MethodName) prog_14_method_24_code (2 : Nat) (Option.some FieldType.int) ∈ ax_tbl := List.mem_filter.mpr ⟨List.mem_of_getElem? (i := 949) (by decide +kernel), rfl⟩
theorem wd_950 : Cond.methodLink "ShadowTailorModel" (152 : Nat) ({ cls := "ShadowTailorModel", name := "readItem", desc := "()Z" } : MethodName) ∈ ax_tbl := List.mem_filter.mpr ⟨List.mem_of_getElem? (i := 950) (by decide +kernel), rfl⟩
theorem wd_952 : Cond.instanceMethod ({ cls := "ShadowTailorModel", name := "readItem", desc := "()Z" } : MethodName) ∈ ax_tbl := List.mem_filter.mpr ⟨List.mem_of_getElem? (i := 952) (by decide +kernel), rfl⟩
theorem wd_953 : Cond.code ({ cls := "ShadowTailorModel", name := "readItem", desc := "()Z" } : MethodName) prog_14_method_23_code (2 : Nat) (Option.some FieldType.boolean) ∈ ax_tbl := List.mem_filter.mpr ⟨List.mem_of_getElem? (i := 953) (by decide +kernel), rfl⟩
theorem wd_954 : Cond.methodLink "ShadowTailorModel" (97 : Nat) ({ cls := "ShadowTailorModel", name := "letterAt", desc := "(I)I" } : MethodName) ∈ ax_tbl := List.mem_filter.mpr ⟨List.mem_of_getElem? (i := 954) (by decide +kernel), rfl⟩
theorem wd_956 : Cond.instanceMethod ({ cls := "ShadowTailorModel", name := "letterAt", desc := "(I)I" } : MethodName) ∈ ax_tbl := List.mem_filter.mpr ⟨List.mem_of_getElem? (i := 956) (by decide +kernel), rfl⟩
theorem wd_957 : Cond.code ({ cls := "ShadowTailorModel", name := "letterAt", desc := "(I)I" } : MethodName) prog_14_method_11_code (2 : Nat) (Option.some FieldType.int) ∈ ax_tbl := List.mem_filter.mpr ⟨List.mem_of_getElem? (i := 957) (by decide +kernel), rfl⟩
theorem wd_958 : Cond.methodLink "ShadowTailorModel" (134 : Nat) ({ cls := "ShadowTailorModel", name := "readPersonOf", desc := "()Z" } : MethodName) ∈ ax_tbl := List.mem_filter.mpr ⟨List.mem_of_getElem? (i := 958) (by decide +kernel), rfl⟩
theorem wd_960 : Cond.instanceMethod ({ cls := "ShadowTailorModel", name := "readPersonOf", desc := "()Z" } : MethodName) ∈ ax_tbl := List.mem_filter.mpr ⟨List.mem_of_getElem? (i := 960) (by decide +kernel), rfl⟩
theorem wd_961 : Cond.code ({ cls := "ShadowTailorModel", name := "readPersonOf", desc := "()Z" } : MethodName) prog_14_method_16_code (1 : Nat) (Option.some FieldType.boolean) ∈ ax_tbl := List.mem_filter.mpr ⟨List.mem_of_getElem? (i := 961) (by decide +kernel), rfl⟩
theorem wd_962 : Cond.methodLink "ShadowTailorModel" (108 : Nat) ({ cls := "ShadowTailorModel", name := "readNumbers", desc := "(I)Z" } : MethodName) ∈ ax_tbl := List.mem_filter.mpr ⟨List.mem_of_getElem? (i := 962) (by decide +kernel), rfl⟩
theorem wd_964 : Cond.instanceMethod ({ cls := "ShadowTailorModel", name := "readNumbers", desc := "(I)Z" } : MethodName) ∈ ax_tbl := List.mem_filter.mpr ⟨List.mem_of_getElem? (i := 964) (by decide +kernel), rfl⟩
theorem wd_965 : Cond.code ({ cls := "ShadowTailorModel", name := "readNumbers", desc := "(I)Z" } : MethodName) prog_14_method_13_code (3 : Nat) (Option.some FieldType.boolean) ∈ ax_tbl := List.mem_filter.mpr ⟨List.mem_of_getElem? (i := 965) (by decide +kernel), rfl⟩
theorem wd_966 : Cond.methodLink "ShadowTailorModel" (101 : Nat) ({ cls := "ShadowTailorModel", name := "isFigure", desc := "(I)Z" } : MethodName) ∈ ax_tbl := List.mem_filter.mpr ⟨List.mem_of_getElem? (i := 966) (by decide +kernel), rfl⟩
theorem wd_967 : Cond.static ({ cls := "ShadowTailorModel", name := "isFigure", desc := "(I)Z" } : MethodName) ∈ ax_tbl := List.mem_filter.mpr ⟨List.mem_of_getElem? (i := 967) (by decide +kernel), rfl⟩
theorem wd_968 : Cond.code ({ cls := "ShadowTailorModel", name := "isFigure", desc := "(I)Z" } : MethodName) prog_14_method_12_code (1 : Nat) (Option.some FieldType.boolean) ∈ ax_tbl := List.mem_filter.mpr ⟨List.mem_of_getElem? (i := 968) (by decide +kernel), rfl⟩
theorem wd_969 : Cond.methodLink "ShadowTailorModel" (111 : Nat) ({ cls := "ShadowTailorModel", name := "isTold", desc := "(III)Z" } : MethodName) ∈ ax_tbl := List.mem_filter.mpr ⟨List.mem_of_getElem? (i := 969) (by decide +kernel), rfl⟩
theorem wd_971 : Cond.instanceMethod ({ cls := "ShadowTailorModel", name := "isTold", desc := "(III)Z" } : MethodName) ∈ ax_tbl := List.mem_filter.mpr ⟨List.mem_of_getElem? (i := 971) (by decide +kernel), rfl⟩
theorem wd_972 : Cond.code ({ cls := "ShadowTailorModel", name := "isTold", desc := "(III)Z" } : MethodName) prog_14_method_14_code (4 : Nat) (Option.some FieldType.boolean) ∈ ax_tbl := List.mem_filter.mpr ⟨List.mem_of_getElem? (i := 972) (by decide +kernel), rfl⟩
theorem wd_973 : Cond.methodLink "ShadowTailorModel" (114 : Nat) ({ cls := "ShadowTailorModel", name := "put", desc := "([II[II)V" } : MethodName) ∈ ax_tbl := List.mem_filter.mpr ⟨List.mem_of_getElem? (i := 973) (by decide +kernel), rfl⟩
theorem wd_974 : Cond.static ({ cls := "ShadowTailorModel", name := "put", desc := "([II[II)V" } : MethodName) ∈ ax_tbl := List.mem_filter.mpr ⟨List.mem_of_getElem? (i := 974) (by decide +kernel), rfl⟩
theorem wd_975 : Cond.code ({ cls := "ShadowTailorModel", name := "put", desc := "([II[II)V" } : MethodName) prog_14_method_15_code (5 : Nat) (Option.none : Option FieldType) ∈ ax_tbl := List.mem_filter.mpr ⟨List.mem_of_getElem? (i := 975) (by decide +kernel), rfl⟩
theorem wd_976 : Cond.methodLink "ShadowTailorModel" (137 : Nat) ({ cls := "ShadowTailorModel", name := "readWalk", desc := "()Z" } : MethodName) ∈ ax_tbl := List.mem_filter.mpr ⟨List.mem_of_getElem? (i := 976) (by decide +kernel), rfl⟩
theorem wd_978 : Cond.instanceMethod ({ cls := "ShadowTailorModel", name := "readWalk", desc := "()Z" } : MethodName) ∈ ax_tbl := List.mem_filter.mpr ⟨List.mem_of_getElem? (i := 978) (by decide +kernel), rfl⟩
theorem wd_979 : Cond.code ({ cls := "ShadowTailorModel", name := "readWalk", desc := "()Z" } : MethodName) prog_14_method_18_code (1 : Nat) (Option.some FieldType.boolean) ∈ ax_tbl := List.mem_filter.mpr ⟨List.mem_of_getElem? (i := 979) (by decide +kernel), rfl⟩
theorem wd_980 : Cond.methodLink "ShadowTailorModel" (118 : Nat) ({ cls := "ShadowTailorModel", name := "isHourOfOne", desc := "()Z" } : MethodName) ∈ ax_tbl := List.mem_filter.mpr ⟨List.mem_of_getElem? (i := 980) (by decide +kernel), rfl⟩
theorem wd_982 : Cond.instanceMethod ({ cls := "ShadowTailorModel", name := "isHourOfOne", desc := "()Z" } : MethodName) ∈ ax_tbl := List.mem_filter.mpr ⟨List.mem_of_getElem? (i := 982) (by decide +kernel), rfl⟩
theorem wd_983 : Cond.code ({ cls := "ShadowTailorModel", name := "isHourOfOne", desc := "()Z" } : MethodName) prog_14_method_17_code (1 : Nat) (Option.some FieldType.boolean) ∈ ax_tbl := List.mem_filter.mpr ⟨List.mem_of_getElem? (i := 983) (by decide +kernel), rfl⟩
theorem wd_984 : Cond.methodLink "ShadowTailorModel" (140 : Nat) ({ cls := "ShadowTailorModel", name := "readLawOf", desc := "()Z" } : MethodName) ∈ ax_tbl := List.mem_filter.mpr ⟨List.mem_of_getElem? (i := 984) (by decide +kernel), rfl⟩
theorem wd_986 : Cond.instanceMethod ({ cls := "ShadowTailorModel", name := "readLawOf", desc := "()Z" } : MethodName) ∈ ax_tbl := List.mem_filter.mpr ⟨List.mem_of_getElem? (i := 986) (by decide +kernel), rfl⟩
theorem wd_987 : Cond.code ({ cls := "ShadowTailorModel", name := "readLawOf", desc := "()Z" } : MethodName) prog_14_method_19_code (1 : Nat) (Option.some FieldType.boolean) ∈ ax_tbl := List.mem_filter.mpr ⟨List.mem_of_getElem? (i := 987) (by decide +kernel), rfl⟩
theorem wd_988 : Cond.methodLink "ShadowTailorModel" (143 : Nat) ({ cls := "ShadowTailorModel", name := "readRemnantOf", desc := "()Z" } : MethodName) ∈ ax_tbl := List.mem_filter.mpr ⟨List.mem_of_getElem? (i := 988) (by decide +kernel), rfl⟩
theorem wd_990 : Cond.instanceMethod ({ cls := "ShadowTailorModel", name := "readRemnantOf", desc := "()Z" } : MethodName) ∈ ax_tbl := List.mem_filter.mpr ⟨List.mem_of_getElem? (i := 990) (by decide +kernel), rfl⟩
theorem wd_991 : Cond.code ({ cls := "ShadowTailorModel", name := "readRemnantOf", desc := "()Z" } : MethodName) prog_14_method_20_code (1 : Nat) (Option.some FieldType.boolean) ∈ ax_tbl := List.mem_filter.mpr ⟨List.mem_of_getElem? (i := 991) (by decide +kernel), rfl⟩
theorem wd_992 : Cond.methodLink "ShadowTailorModel" (146 : Nat) ({ cls := "ShadowTailorModel", name := "readOrderOf", desc := "()Z" } : MethodName) ∈ ax_tbl := List.mem_filter.mpr ⟨List.mem_of_getElem? (i := 992) (by decide +kernel), rfl⟩
theorem wd_994 : Cond.instanceMethod ({ cls := "ShadowTailorModel", name := "readOrderOf", desc := "()Z" } : MethodName) ∈ ax_tbl := List.mem_filter.mpr ⟨List.mem_of_getElem? (i := 994) (by decide +kernel), rfl⟩
theorem wd_995 : Cond.code ({ cls := "ShadowTailorModel", name := "readOrderOf", desc := "()Z" } : MethodName) prog_14_method_21_code (1 : Nat) (Option.some FieldType.boolean) ∈ ax_tbl := List.mem_filter.mpr ⟨List.mem_of_getElem? (i := 995) (by decide +kernel), rfl⟩
theorem wd_996 : Cond.methodLink "ShadowTailorModel" (149 : Nat) ({ cls := "ShadowTailorModel", name := "readFittingOf", desc := "()Z" } : MethodName) ∈ ax_tbl := List.mem_filter.mpr ⟨List.mem_of_getElem? (i := 996) (by decide +kernel), rfl⟩
theorem wd_998 : Cond.instanceMethod ({ cls := "ShadowTailorModel", name := "readFittingOf", desc := "()Z" } : MethodName) ∈ ax_tbl := List.mem_filter.mpr ⟨List.mem_of_getElem? (i := 998) (by decide +kernel), rfl⟩
theorem wd_999 : Cond.code ({ cls := "ShadowTailorModel", name := "readFittingOf", desc := "()Z" } : MethodName) prog_14_method_22_code (1 : Nat) (Option.some FieldType.boolean) ∈ ax_tbl := List.mem_filter.mpr ⟨List.mem_of_getElem? (i := 999) (by decide +kernel), rfl⟩
theorem wd_1000 : Cond.methodLink "ShadowTailorLaw" (30 : Nat) ({ cls := "ShadowTailorModel", name := "lay", desc := "()I" } : MethodName) ∈ ax_tbl := List.mem_filter.mpr ⟨List.mem_of_getElem? (i := 1000) (by decide +kernel), rfl⟩
theorem wd_1001 : Cond.instanceMethod ({ cls := "ShadowTailorModel", name := "lay", desc := "()I" } : MethodName) ∈ ax_tbl := List.mem_filter.mpr ⟨List.mem_of_getElem? (i := 1001) (by decide +kernel), rfl⟩
theorem wd_1002 : Cond.selects "ShadowTailorModel" ({ cls := "ShadowTailorModel", name := "lay", desc := "()I" } : MethodName) ({ cls := "ShadowTailorModel", name := "lay", desc := "()I" } : MethodName) ∈ ax_tbl := List.mem_filter.mpr ⟨List.mem_of_getElem? (i := 1002) (by decide +kernel), rfl⟩
theorem wd_1003 : Cond.code ({ cls := "ShadowTailorModel", name := "lay", desc := "()I" } : MethodName) prog_14_method_25_code (1 : Nat) (Option.some FieldType.int) ∈ ax_tbl := List.mem_filter.mpr ⟨List.mem_of_getElem? (i := 1003) (by decide +kernel), rfl⟩
theorem wd_1004 : Cond.methodLink "ShadowTailorModel" (155 : Nat) ({ cls := "ShadowTailorModel", name := "fault", desc := "()I" } : MethodName) ∈ ax_tbl := List.mem_filter.mpr ⟨List.mem_of_getElem? (i := 1004) (by decide +kernel), rfl⟩
theorem wd_1005 : Cond.methodLink "ShadowTailorLaw" (35 : Nat) ({ cls := "ShadowTailorModel", name := "person", desc := "(II)I" } : MethodName) ∈ ax_tbl := List.mem_filter.mpr ⟨List.mem_of_getElem? (i := 1005) (by decide +kernel), rfl⟩
theorem wd_1006 : Cond.instanceMethod ({ cls := "ShadowTailorModel", name := "person", desc := "(II)I" } : MethodName) ∈ ax_tbl := List.mem_filter.mpr ⟨List.mem_of_getElem? (i := 1006) (by decide +kernel), rfl⟩
theorem wd_1007 : Cond.selects "ShadowTailorModel" ({ cls := "ShadowTailorModel", name := "person", desc := "(II)I" } : MethodName) ({ cls := "ShadowTailorModel", name := "person", desc := "(II)I" } : MethodName) ∈ ax_tbl := List.mem_filter.mpr ⟨List.mem_of_getElem? (i := 1007) (by decide +kernel), rfl⟩
theorem wd_1008 : Cond.code ({ cls := "ShadowTailorModel", name := "person", desc := "(II)I" } : MethodName) prog_14_method_33_code (3 : Nat) (Option.some FieldType.int) ∈ ax_tbl := List.mem_filter.mpr ⟨List.mem_of_getElem? (i := 1008) (by decide +kernel), rfl⟩
theorem wd_1009 : Cond.methodLink "ShadowTailorModel" (185 : Nat) ({ cls := "ShadowTailorModel", name := "isPerson", desc := "(I)Z" } : MethodName) ∈ ax_tbl := List.mem_filter.mpr ⟨List.mem_of_getElem? (i := 1009) (by decide +kernel), rfl⟩
theorem wd_1011 : Cond.instanceMethod ({ cls := "ShadowTailorModel", name := "isPerson", desc := "(I)Z" } : MethodName) ∈ ax_tbl := List.mem_filter.mpr ⟨List.mem_of_getElem? (i := 1011) (by decide +kernel), rfl⟩
theorem wd_1012 : Cond.code ({ cls := "ShadowTailorModel", name := "isPerson", desc := "(I)Z" } : MethodName) prog_14_method_7_code (2 : Nat) (Option.some FieldType.boolean) ∈ ax_tbl := List.mem_filter.mpr ⟨List.mem_of_getElem? (i := 1012) (by decide +kernel), rfl⟩
theorem wd_1013 : Cond.methodLink "ShadowTailorLaw" (39 : Nat) ({ cls := "ShadowTailorModel", name := "where", desc := "(II)I" } : MethodName) ∈ ax_tbl := List.mem_filter.mpr ⟨List.mem_of_getElem? (i := 1013) (by decide +kernel), rfl⟩
theorem wd_1014 : Cond.instanceMethod ({ cls := "ShadowTailorModel", name := "where", desc := "(II)I" } : MethodName) ∈ ax_tbl := List.mem_filter.mpr ⟨List.mem_of_getElem? (i := 1014) (by decide +kernel), rfl⟩
theorem wd_1015 : Cond.selects "ShadowTailorModel" ({ cls := "ShadowTailorModel", name := "where", desc := "(II)I" } : MethodName) ({ cls := "ShadowTailorModel", name := "where", desc := "(II)I" } : MethodName) ∈ ax_tbl := List.mem_filter.mpr ⟨List.mem_of_getElem? (i := 1015) (by decide +kernel), rfl⟩
theorem wd_1016 : Cond.code ({ cls := "ShadowTailorModel", name := "where", desc := "(II)I" } : MethodName) prog_14_method_34_code (3 : Nat) (Option.some FieldType.int) ∈ ax_tbl := List.mem_filter.mpr ⟨List.mem_of_getElem? (i := 1016) (by decide +kernel), rfl⟩
theorem wd_1017 : Cond.methodLink "ShadowTailorModel" (188 : Nat) ({ cls := "ShadowTailorModel", name := "isHour", desc := "(I)Z" } : MethodName) ∈ ax_tbl := List.mem_filter.mpr ⟨List.mem_of_getElem? (i := 1017) (by decide +kernel), rfl⟩
theorem wd_1018 : Cond.static ({ cls := "ShadowTailorModel", name := "isHour", desc := "(I)Z" } : MethodName) ∈ ax_tbl := List.mem_filter.mpr ⟨List.mem_of_getElem? (i := 1018) (by decide +kernel), rfl⟩
theorem wd_1019 : Cond.code ({ cls := "ShadowTailorModel", name := "isHour", desc := "(I)Z" } : MethodName) prog_14_method_8_code (1 : Nat) (Option.some FieldType.boolean) ∈ ax_tbl := List.mem_filter.mpr ⟨List.mem_of_getElem? (i := 1019) (by decide +kernel), rfl⟩
theorem wd_1020 : Cond.methodLink "ShadowTailorModel" (175 : Nat) ({ cls := "ShadowTailorModel", name := "whereAt", desc := "(II)I" } : MethodName) ∈ ax_tbl := List.mem_filter.mpr ⟨List.mem_of_getElem? (i := 1020) (by decide +kernel), rfl⟩
theorem wd_1022 : Cond.instanceMethod ({ cls := "ShadowTailorModel", name := "whereAt", desc := "(II)I" } : MethodName) ∈ ax_tbl := List.mem_filter.mpr ⟨List.mem_of_getElem? (i := 1022) (by decide +kernel), rfl⟩
theorem wd_1023 : Cond.code ({ cls := "ShadowTailorModel", name := "whereAt", desc := "(II)I" } : MethodName) prog_14_method_26_code (7 : Nat) (Option.some FieldType.int) ∈ ax_tbl := List.mem_filter.mpr ⟨List.mem_of_getElem? (i := 1023) (by decide +kernel), rfl⟩
theorem wd_1024 : Cond.methodLink "ShadowTailorLaw" (44 : Nat) ({ cls := "ShadowTailorModel", name := "shadow", desc := "(III)I" } : MethodName) ∈ ax_tbl := List.mem_filter.mpr ⟨List.mem_of_getElem? (i := 1024) (by decide +kernel), rfl⟩
theorem wd_1025 : Cond.instanceMethod ({ cls := "ShadowTailorModel", name := "shadow", desc := "(III)I" } : MethodName) ∈ ax_tbl := List.mem_filter.mpr ⟨List.mem_of_getElem? (i := 1025) (by decide +kernel), rfl⟩
theorem wd_1026 : Cond.selects "ShadowTailorModel" ({ cls := "ShadowTailorModel", name := "shadow", desc := "(III)I" } : MethodName) ({ cls := "ShadowTailorModel", name := "shadow", desc := "(III)I" } : MethodName) ∈ ax_tbl := List.mem_filter.mpr ⟨List.mem_of_getElem? (i := 1026) (by decide +kernel), rfl⟩
theorem wd_1027 : Cond.code ({ cls := "ShadowTailorModel", name := "shadow", desc := "(III)I" } : MethodName) prog_14_method_35_code (8 : Nat) (Option.some FieldType.int) ∈ ax_tbl := List.mem_filter.mpr ⟨List.mem_of_getElem? (i := 1027) (by decide +kernel), rfl⟩
theorem wd_1028 : Cond.methodLink "ShadowTailorModel" (182 : Nat) ({ cls := "ShadowTailorModel", name := "longAt", desc := "(II)I" } : MethodName) ∈ ax_tbl := List.mem_filter.mpr ⟨List.mem_of_getElem? (i := 1028) (by decide +kernel), rfl⟩
theorem wd_1030 : Cond.instanceMethod ({ cls := "ShadowTailorModel", name := "longAt", desc := "(II)I" } : MethodName) ∈ ax_tbl := List.mem_filter.mpr ⟨List.mem_of_getElem? (i := 1030) (by decide +kernel), rfl⟩
theorem wd_1031 : Cond.code ({ cls := "ShadowTailorModel", name := "longAt", desc := "(II)I" } : MethodName) prog_14_method_29_code (3 : Nat) (Option.some FieldType.int) ∈ ax_tbl := List.mem_filter.mpr ⟨List.mem_of_getElem? (i := 1031) (by decide +kernel), rfl⟩
theorem wd_1032 : Cond.methodLink "ShadowTailorModel" (171 : Nat) ({ cls := "ShadowTailorModel", name := "longBy", desc := "(III)I" } : MethodName) ∈ ax_tbl := List.mem_filter.mpr ⟨List.mem_of_getElem? (i := 1032) (by decide +kernel), rfl⟩
theorem wd_1034 : Cond.instanceMethod ({ cls := "ShadowTailorModel", name := "longBy", desc := "(III)I" } : MethodName) ∈ ax_tbl := List.mem_filter.mpr ⟨List.mem_of_getElem? (i := 1034) (by decide +kernel), rfl⟩
theorem wd_1035 : Cond.code ({ cls := "ShadowTailorModel", name := "longBy", desc := "(III)I" } : MethodName) prog_14_method_28_code (8 : Nat) (Option.some FieldType.int) ∈ ax_tbl := List.mem_filter.mpr ⟨List.mem_of_getElem? (i := 1035) (by decide +kernel), rfl⟩
theorem wd_1036 : Cond.methodLink "ShadowTailorModel" (168 : Nat) ({ cls := "ShadowTailorModel", name := "fromNoon", desc := "(I)I" } : MethodName) ∈ ax_tbl := List.mem_filter.mpr ⟨List.mem_of_getElem? (i := 1036) (by decide +kernel), rfl⟩
theorem wd_1038 : Cond.instanceMethod ({ cls := "ShadowTailorModel", name := "fromNoon", desc := "(I)I" } : MethodName) ∈ ax_tbl := List.mem_filter.mpr ⟨List.mem_of_getElem? (i := 1038) (by decide +kernel), rfl⟩
theorem wd_1039 : Cond.code ({ cls := "ShadowTailorModel", name := "fromNoon", desc := "(I)I" } : MethodName) prog_14_method_27_code (2 : Nat) (Option.some FieldType.int) ∈ ax_tbl := List.mem_filter.mpr ⟨List.mem_of_getElem? (i := 1039) (by decide +kernel), rfl⟩
theorem wd_1040 : Cond.methodLink "ShadowTailorModel" (179 : Nat) ({ cls := "ShadowTailorModel", name := "wayAt", desc := "(II)I" } : MethodName) ∈ ax_tbl := List.mem_filter.mpr ⟨List.mem_of_getElem? (i := 1040) (by decide +kernel), rfl⟩
theorem wd_1042 : Cond.instanceMethod ({ cls := "ShadowTailorModel", name := "wayAt", desc := "(II)I" } : MethodName) ∈ ax_tbl := List.mem_filter.mpr ⟨List.mem_of_getElem? (i := 1042) (by decide +kernel), rfl⟩
theorem wd_1043 : Cond.code ({ cls := "ShadowTailorModel", name := "wayAt", desc := "(II)I" } : MethodName) prog_14_method_30_code (4 : Nat) (Option.some FieldType.int) ∈ ax_tbl := List.mem_filter.mpr ⟨List.mem_of_getElem? (i := 1043) (by decide +kernel), rfl⟩
theorem wd_1044 : Cond.methodLink "ShadowTailorModel" (191 : Nat) ({ cls := "ShadowTailorModel", name := "endAt", desc := "(II)I" } : MethodName) ∈ ax_tbl := List.mem_filter.mpr ⟨List.mem_of_getElem? (i := 1044) (by decide +kernel), rfl⟩
theorem wd_1046 : Cond.instanceMethod ({ cls := "ShadowTailorModel", name := "endAt", desc := "(II)I" } : MethodName) ∈ ax_tbl := List.mem_filter.mpr ⟨List.mem_of_getElem? (i := 1046) (by decide +kernel), rfl⟩
theorem wd_1047 : Cond.code ({ cls := "ShadowTailorModel", name := "endAt", desc := "(II)I" } : MethodName) prog_14_method_31_code (3 : Nat) (Option.some FieldType.int) ∈ ax_tbl := List.mem_filter.mpr ⟨List.mem_of_getElem? (i := 1047) (by decide +kernel), rfl⟩
theorem wd_1048 : Cond.methodLink "ShadowTailorLaw" (48 : Nat) ({ cls := "ShadowTailorModel", name := "covers", desc := "(II)I" } : MethodName) ∈ ax_tbl := List.mem_filter.mpr ⟨List.mem_of_getElem? (i := 1048) (by decide +kernel), rfl⟩
theorem wd_1049 : Cond.instanceMethod ({ cls := "ShadowTailorModel", name := "covers", desc := "(II)I" } : MethodName) ∈ ax_tbl := List.mem_filter.mpr ⟨List.mem_of_getElem? (i := 1049) (by decide +kernel), rfl⟩
theorem wd_1050 : Cond.selects "ShadowTailorModel" ({ cls := "ShadowTailorModel", name := "covers", desc := "(II)I" } : MethodName) ({ cls := "ShadowTailorModel", name := "covers", desc := "(II)I" } : MethodName) ∈ ax_tbl := List.mem_filter.mpr ⟨List.mem_of_getElem? (i := 1050) (by decide +kernel), rfl⟩
theorem wd_1051 : Cond.code ({ cls := "ShadowTailorModel", name := "covers", desc := "(II)I" } : MethodName) prog_14_method_36_code (5 : Nat) (Option.some FieldType.int) ∈ ax_tbl := List.mem_filter.mpr ⟨List.mem_of_getElem? (i := 1051) (by decide +kernel), rfl⟩
theorem wd_1052 : Cond.methodLink "ShadowTailorModel" (194 : Nat) ({ cls := "ShadowTailorModel", name := "reaches", desc := "(IIII)Z" } : MethodName) ∈ ax_tbl := List.mem_filter.mpr ⟨List.mem_of_getElem? (i := 1052) (by decide +kernel), rfl⟩
theorem wd_1053 : Cond.static ({ cls := "ShadowTailorModel", name := "reaches", desc := "(IIII)Z" } : MethodName) ∈ ax_tbl := List.mem_filter.mpr ⟨List.mem_of_getElem? (i := 1053) (by decide +kernel), rfl⟩
theorem wd_1054 : Cond.code ({ cls := "ShadowTailorModel", name := "reaches", desc := "(IIII)Z" } : MethodName) prog_14_method_32_code (5 : Nat) (Option.some FieldType.boolean) ∈ ax_tbl := List.mem_filter.mpr ⟨List.mem_of_getElem? (i := 1054) (by decide +kernel), rfl⟩
theorem wd_1055 : Cond.methodLink "ShadowTailorLaw" (52 : Nat) ({ cls := "ShadowTailorModel", name := "stands", desc := "(II)I" } : MethodName) ∈ ax_tbl := List.mem_filter.mpr ⟨List.mem_of_getElem? (i := 1055) (by decide +kernel), rfl⟩
theorem wd_1056 : Cond.instanceMethod ({ cls := "ShadowTailorModel", name := "stands", desc := "(II)I" } : MethodName) ∈ ax_tbl := List.mem_filter.mpr ⟨List.mem_of_getElem? (i := 1056) (by decide +kernel), rfl⟩
theorem wd_1057 : Cond.selects "ShadowTailorModel" ({ cls := "ShadowTailorModel", name := "stands", desc := "(II)I" } : MethodName) ({ cls := "ShadowTailorModel", name := "stands", desc := "(II)I" } : MethodName) ∈ ax_tbl := List.mem_filter.mpr ⟨List.mem_of_getElem? (i := 1057) (by decide +kernel), rfl⟩
theorem wd_1058 : Cond.code ({ cls := "ShadowTailorModel", name := "stands", desc := "(II)I" } : MethodName) prog_14_method_39_code (3 : Nat) (Option.some FieldType.int) ∈ ax_tbl := List.mem_filter.mpr ⟨List.mem_of_getElem? (i := 1058) (by decide +kernel), rfl⟩
theorem wd_1059 : Cond.methodLink "ShadowTailorModel" (201 : Nat) ({ cls := "ShadowTailorModel", name := "standsAt", desc := "(II)I" } : MethodName) ∈ ax_tbl := List.mem_filter.mpr ⟨List.mem_of_getElem? (i := 1059) (by decide +kernel), rfl⟩
theorem wd_1061 : Cond.instanceMethod ({ cls := "ShadowTailorModel", name := "standsAt", desc := "(II)I" } : MethodName) ∈ ax_tbl := List.mem_filter.mpr ⟨List.mem_of_getElem? (i := 1061) (by decide +kernel), rfl⟩
theorem wd_1062 : Cond.code ({ cls := "ShadowTailorModel", name := "standsAt", desc := "(II)I" } : MethodName) prog_14_method_38_code (3 : Nat) (Option.some FieldType.int) ∈ ax_tbl := List.mem_filter.mpr ⟨List.mem_of_getElem? (i := 1062) (by decide +kernel), rfl⟩
theorem wd_1063 : Cond.methodLink "ShadowTailorModel" (198 : Nat) ({ cls := "ShadowTailorModel", name := "standOn", desc := "(III)I" } : MethodName) ∈ ax_tbl := List.mem_filter.mpr ⟨List.mem_of_getElem? (i := 1063) (by decide +kernel), rfl⟩
theorem wd_1065 : Cond.instanceMethod ({ cls := "ShadowTailorModel", name := "standOn", desc := "(III)I" } : MethodName) ∈ ax_tbl := List.mem_filter.mpr ⟨List.mem_of_getElem? (i := 1065) (by decide +kernel), rfl⟩
theorem wd_1066 : Cond.code ({ cls := "ShadowTailorModel", name := "standOn", desc := "(III)I" } : MethodName) prog_14_method_37_code (6 : Nat) (Option.some FieldType.int) ∈ ax_tbl := List.mem_filter.mpr ⟨List.mem_of_getElem? (i := 1066) (by decide +kernel), rfl⟩
theorem wd_1067 : Cond.methodLink "ShadowTailorLaw" (56 : Nat) ({ cls := "ShadowTailorModel", name := "wear", desc := "(II)I" } : MethodName) ∈ ax_tbl := List.mem_filter.mpr ⟨List.mem_of_getElem? (i := 1067) (by decide +kernel), rfl⟩
theorem wd_1068 : Cond.instanceMethod ({ cls := "ShadowTailorModel", name := "wear", desc := "(II)I" } : MethodName) ∈ ax_tbl := List.mem_filter.mpr ⟨List.mem_of_getElem? (i := 1068) (by decide +kernel), rfl⟩
theorem wd_1069 : Cond.selects "ShadowTailorModel" ({ cls := "ShadowTailorModel", name := "wear", desc := "(II)I" } : MethodName) ({ cls := "ShadowTailorModel", name := "wear", desc := "(II)I" } : MethodName) ∈ ax_tbl := List.mem_filter.mpr ⟨List.mem_of_getElem? (i := 1069) (by decide +kernel), rfl⟩
theorem wd_1070 : Cond.code ({ cls := "ShadowTailorModel", name := "wear", desc := "(II)I" } : MethodName) prog_14_method_40_code (5 : Nat) (Option.some FieldType.int) ∈ ax_tbl := List.mem_filter.mpr ⟨List.mem_of_getElem? (i := 1070) (by decide +kernel), rfl⟩
theorem wd_1071 : Cond.methodLink "ShadowTailorModel" (204 : Nat) ({ cls := "ShadowTailorModel", name := "bits", desc := "(I)I" } : MethodName) ∈ ax_tbl := List.mem_filter.mpr ⟨List.mem_of_getElem? (i := 1071) (by decide +kernel), rfl⟩
theorem wd_1072 : Cond.static ({ cls := "ShadowTailorModel", name := "bits", desc := "(I)I" } : MethodName) ∈ ax_tbl := List.mem_filter.mpr ⟨List.mem_of_getElem? (i := 1072) (by decide +kernel), rfl⟩
theorem wd_1073 : Cond.code ({ cls := "ShadowTailorModel", name := "bits", desc := "(I)I" } : MethodName) prog_14_method_6_code (3 : Nat) (Option.some FieldType.int) ∈ ax_tbl := List.mem_filter.mpr ⟨List.mem_of_getElem? (i := 1073) (by decide +kernel), rfl⟩
theorem wd_1074 : Cond.methodLink "ShadowTailorLaw" (60 : Nat) ({ cls := "ShadowTailorModel", name := "alter", desc := "(II)I" } : MethodName) ∈ ax_tbl := List.mem_filter.mpr ⟨List.mem_of_getElem? (i := 1074) (by decide +kernel), rfl⟩
theorem wd_1075 : Cond.instanceMethod ({ cls := "ShadowTailorModel", name := "alter", desc := "(II)I" } : MethodName) ∈ ax_tbl := List.mem_filter.mpr ⟨List.mem_of_getElem? (i := 1075) (by decide +kernel), rfl⟩
theorem wd_1076 : Cond.selects "ShadowTailorModel" ({ cls := "ShadowTailorModel", name := "alter", desc := "(II)I" } : MethodName) ({ cls := "ShadowTailorModel", name := "alter", desc := "(II)I" } : MethodName) ∈ ax_tbl := List.mem_filter.mpr ⟨List.mem_of_getElem? (i := 1076) (by decide +kernel), rfl⟩
theorem wd_1077 : Cond.code ({ cls := "ShadowTailorModel", name := "alter", desc := "(II)I" } : MethodName) prog_14_method_42_code (4 : Nat) (Option.some FieldType.int) ∈ ax_tbl := List.mem_filter.mpr ⟨List.mem_of_getElem? (i := 1077) (by decide +kernel), rfl⟩
theorem wd_1078 : Cond.methodLink "ShadowTailorModel" (207 : Nat) ({ cls := "ShadowTailorModel", name := "remembers", desc := "()V" } : MethodName) ∈ ax_tbl := List.mem_filter.mpr ⟨List.mem_of_getElem? (i := 1078) (by decide +kernel), rfl⟩
theorem wd_1080 : Cond.instanceMethod ({ cls := "ShadowTailorModel", name := "remembers", desc := "()V" } : MethodName) ∈ ax_tbl := List.mem_filter.mpr ⟨List.mem_of_getElem? (i := 1080) (by decide +kernel), rfl⟩
theorem wd_1081 : Cond.code ({ cls := "ShadowTailorModel", name := "remembers", desc := "()V" } : MethodName) prog_14_method_41_code (2 : Nat) (Option.none : Option FieldType) ∈ ax_tbl := List.mem_filter.mpr ⟨List.mem_of_getElem? (i := 1081) (by decide +kernel), rfl⟩
theorem wd_1082 : Cond.methodLink "ShadowTailorLaw" (64 : Nat) ({ cls := "ShadowTailorModel", name := "walk", desc := "(III)I" } : MethodName) ∈ ax_tbl := List.mem_filter.mpr ⟨List.mem_of_getElem? (i := 1082) (by decide +kernel), rfl⟩
theorem wd_1083 : Cond.instanceMethod ({ cls := "ShadowTailorModel", name := "walk", desc := "(III)I" } : MethodName) ∈ ax_tbl := List.mem_filter.mpr ⟨List.mem_of_getElem? (i := 1083) (by decide +kernel), rfl⟩
theorem wd_1084 : Cond.selects "ShadowTailorModel" ({ cls := "ShadowTailorModel", name := "walk", desc := "(III)I" } : MethodName) ({ cls := "ShadowTailorModel", name := "walk", desc := "(III)I" } : MethodName) ∈ ax_tbl := List.mem_filter.mpr ⟨List.mem_of_getElem? (i := 1084) (by decide +kernel), rfl⟩
theorem wd_1085 : Cond.code ({ cls := "ShadowTailorModel", name := "walk", desc := "(III)I" } : MethodName) prog_14_method_43_code (4 : Nat) (Option.some FieldType.int) ∈ ax_tbl := List.mem_filter.mpr ⟨List.mem_of_getElem? (i := 1085) (by decide +kernel), rfl⟩
theorem wd_1086 : Cond.methodLink "ShadowTailorLaw" (68 : Nat) ({ cls := "ShadowTailorModel", name := "undo", desc := "()I" } : MethodName) ∈ ax_tbl := List.mem_filter.mpr ⟨List.mem_of_getElem? (i := 1086) (by decide +kernel), rfl⟩
theorem wd_1087 : Cond.instanceMethod ({ cls := "ShadowTailorModel", name := "undo", desc := "()I" } : MethodName) ∈ ax_tbl := List.mem_filter.mpr ⟨List.mem_of_getElem? (i := 1087) (by decide +kernel), rfl⟩
theorem wd_1088 : Cond.selects "ShadowTailorModel" ({ cls := "ShadowTailorModel", name := "undo", desc := "()I" } : MethodName) ({ cls := "ShadowTailorModel", name := "undo", desc := "()I" } : MethodName) ∈ ax_tbl := List.mem_filter.mpr ⟨List.mem_of_getElem? (i := 1088) (by decide +kernel), rfl⟩
theorem wd_1089 : Cond.code ({ cls := "ShadowTailorModel", name := "undo", desc := "()I" } : MethodName) prog_14_method_44_code (2 : Nat) (Option.some FieldType.int) ∈ ax_tbl := List.mem_filter.mpr ⟨List.mem_of_getElem? (i := 1089) (by decide +kernel), rfl⟩
theorem wd_1090 : Cond.methodLink "ShadowTailorLaw" (72 : Nat) ({ cls := "ShadowTailorModel", name := "first", desc := "(I)I" } : MethodName) ∈ ax_tbl := List.mem_filter.mpr ⟨List.mem_of_getElem? (i := 1090) (by decide +kernel), rfl⟩
theorem wd_1091 : Cond.instanceMethod ({ cls := "ShadowTailorModel", name := "first", desc := "(I)I" } : MethodName) ∈ ax_tbl := List.mem_filter.mpr ⟨List.mem_of_getElem? (i := 1091) (by decide +kernel), rfl⟩
theorem wd_1092 : Cond.selects "ShadowTailorModel" ({ cls := "ShadowTailorModel", name := "first", desc := "(I)I" } : MethodName) ({ cls := "ShadowTailorModel", name := "first", desc := "(I)I" } : MethodName) ∈ ax_tbl := List.mem_filter.mpr ⟨List.mem_of_getElem? (i := 1092) (by decide +kernel), rfl⟩
theorem wd_1093 : Cond.code ({ cls := "ShadowTailorModel", name := "first", desc := "(I)I" } : MethodName) prog_14_method_45_code (5 : Nat) (Option.some FieldType.int) ∈ ax_tbl := List.mem_filter.mpr ⟨List.mem_of_getElem? (i := 1093) (by decide +kernel), rfl⟩
theorem wd_1094 : Cond.methodLink "ShadowTailorModel" (210 : Nat) ({ cls := "ShadowTailorModel", name := "lowest", desc := "(I)I" } : MethodName) ∈ ax_tbl := List.mem_filter.mpr ⟨List.mem_of_getElem? (i := 1094) (by decide +kernel), rfl⟩
theorem wd_1095 : Cond.static ({ cls := "ShadowTailorModel", name := "lowest", desc := "(I)I" } : MethodName) ∈ ax_tbl := List.mem_filter.mpr ⟨List.mem_of_getElem? (i := 1095) (by decide +kernel), rfl⟩
theorem wd_1096 : Cond.code ({ cls := "ShadowTailorModel", name := "lowest", desc := "(I)I" } : MethodName) prog_14_method_46_code (2 : Nat) (Option.some FieldType.int) ∈ ax_tbl := List.mem_filter.mpr ⟨List.mem_of_getElem? (i := 1096) (by decide +kernel), rfl⟩
theorem wd_1097 : Cond.methodLink "ShadowTailorModel" (213 : Nat) ({ cls := "ShadowTailorModel", name := "has", desc := "(II)Z" } : MethodName) ∈ ax_tbl := List.mem_filter.mpr ⟨List.mem_of_getElem? (i := 1097) (by decide +kernel), rfl⟩
theorem wd_1098 : Cond.static ({ cls := "ShadowTailorModel", name := "has", desc := "(II)Z" } : MethodName) ∈ ax_tbl := List.mem_filter.mpr ⟨List.mem_of_getElem? (i := 1098) (by decide +kernel), rfl⟩
theorem wd_1099 : Cond.code ({ cls := "ShadowTailorModel", name := "has", desc := "(II)Z" } : MethodName) prog_14_method_5_code (2 : Nat) (Option.some FieldType.boolean) ∈ ax_tbl := List.mem_filter.mpr ⟨List.mem_of_getElem? (i := 1099) (by decide +kernel), rfl⟩
theorem wd_1100 : Cond.methodLink "ShadowTailorLaw" (76 : Nat) ({ cls := "ShadowTailorModel", name := "broken", desc := "()I" } : MethodName) ∈ ax_tbl := List.mem_filter.mpr ⟨List.mem_of_getElem? (i := 1100) (by decide +kernel), rfl⟩
theorem wd_1101 : Cond.instanceMethod ({ cls := "ShadowTailorModel", name := "broken", desc := "()I" } : MethodName) ∈ ax_tbl := List.mem_filter.mpr ⟨List.mem_of_getElem? (i := 1101) (by decide +kernel), rfl⟩
theorem wd_1102 : Cond.selects "ShadowTailorModel" ({ cls := "ShadowTailorModel", name := "broken", desc := "()I" } : MethodName) ({ cls := "ShadowTailorModel", name := "broken", desc := "()I" } : MethodName) ∈ ax_tbl := List.mem_filter.mpr ⟨List.mem_of_getElem? (i := 1102) (by decide +kernel), rfl⟩
theorem wd_1103 : Cond.code ({ cls := "ShadowTailorModel", name := "broken", desc := "()I" } : MethodName) prog_14_method_47_code (2 : Nat) (Option.some FieldType.int) ∈ ax_tbl := List.mem_filter.mpr ⟨List.mem_of_getElem? (i := 1103) (by decide +kernel), rfl⟩
theorem wd_1104 : Cond.methodLink "ShadowTailorLaw" (80 : Nat) ({ cls := "ShadowTailorModel", name := "taken", desc := "(III)I" } : MethodName) ∈ ax_tbl := List.mem_filter.mpr ⟨List.mem_of_getElem? (i := 1104) (by decide +kernel), rfl⟩
theorem wd_1105 : Cond.instanceMethod ({ cls := "ShadowTailorModel", name := "taken", desc := "(III)I" } : MethodName) ∈ ax_tbl := List.mem_filter.mpr ⟨List.mem_of_getElem? (i := 1105) (by decide +kernel), rfl⟩
theorem wd_1106 : Cond.selects "ShadowTailorModel" ({ cls := "ShadowTailorModel", name := "taken", desc := "(III)I" } : MethodName) ({ cls := "ShadowTailorModel", name := "taken", desc := "(III)I" } : MethodName) ∈ ax_tbl := List.mem_filter.mpr ⟨List.mem_of_getElem? (i := 1106) (by decide +kernel), rfl⟩
theorem wd_1107 : Cond.code ({ cls := "ShadowTailorModel", name := "taken", desc := "(III)I" } : MethodName) prog_14_method_49_code (5 : Nat) (Option.some FieldType.int) ∈ ax_tbl := List.mem_filter.mpr ⟨List.mem_of_getElem? (i := 1107) (by decide +kernel), rfl⟩
theorem wd_1108 : Cond.methodLink "ShadowTailorModel" (217 : Nat) ({ cls := "ShadowTailorModel", name := "does", desc := "(IIII)Z" } : MethodName) ∈ ax_tbl := List.mem_filter.mpr ⟨List.mem_of_getElem? (i := 1108) (by decide +kernel), rfl⟩
theorem wd_1110 : Cond.instanceMethod ({ cls := "ShadowTailorModel", name := "does", desc := "(IIII)Z" } : MethodName) ∈ ax_tbl := List.mem_filter.mpr ⟨List.mem_of_getElem? (i := 1110) (by decide +kernel), rfl⟩
theorem wd_1111 : Cond.code ({ cls := "ShadowTailorModel", name := "does", desc := "(IIII)Z" } : MethodName) prog_14_method_48_code (7 : Nat) (Option.some FieldType.boolean) ∈ ax_tbl := List.mem_filter.mpr ⟨List.mem_of_getElem? (i := 1111) (by decide +kernel), rfl⟩
theorem wd_1112 : Cond.methodLink "ShadowTailorLaw" (84 : Nat) ({ cls := "ShadowTailorModel", name := "seen", desc := "(II)I" } : MethodName) ∈ ax_tbl := List.mem_filter.mpr ⟨List.mem_of_getElem? (i := 1112) (by decide +kernel), rfl⟩
theorem wd_1113 : Cond.instanceMethod ({ cls := "ShadowTailorModel", name := "seen", desc := "(II)I" } : MethodName) ∈ ax_tbl := List.mem_filter.mpr ⟨List.mem_of_getElem? (i := 1113) (by decide +kernel), rfl⟩
theorem wd_1114 : Cond.selects "ShadowTailorModel" ({ cls := "ShadowTailorModel", name := "seen", desc := "(II)I" } : MethodName) ({ cls := "ShadowTailorModel", name := "seen", desc := "(II)I" } : MethodName) ∈ ax_tbl := List.mem_filter.mpr ⟨List.mem_of_getElem? (i := 1114) (by decide +kernel), rfl⟩
theorem wd_1115 : Cond.code ({ cls := "ShadowTailorModel", name := "seen", desc := "(II)I" } : MethodName) prog_14_method_50_code (3 : Nat) (Option.some FieldType.int) ∈ ax_tbl := List.mem_filter.mpr ⟨List.mem_of_getElem? (i := 1115) (by decide +kernel), rfl⟩
theorem wd_1116 : Cond.methodLink "ShadowTailorLaw" (88 : Nat) ({ cls := "ShadowTailorModel", name := "forget", desc := "()I" } : MethodName) ∈ ax_tbl := List.mem_filter.mpr ⟨List.mem_of_getElem? (i := 1116) (by decide +kernel), rfl⟩
theorem wd_1117 : Cond.instanceMethod ({ cls := "ShadowTailorModel", name := "forget", desc := "()I" } : MethodName) ∈ ax_tbl := List.mem_filter.mpr ⟨List.mem_of_getElem? (i := 1117) (by decide +kernel), rfl⟩
theorem wd_1118 : Cond.selects "ShadowTailorModel" ({ cls := "ShadowTailorModel", name := "forget", desc := "()I" } : MethodName) ({ cls := "ShadowTailorModel", name := "forget", desc := "()I" } : MethodName) ∈ ax_tbl := List.mem_filter.mpr ⟨List.mem_of_getElem? (i := 1118) (by decide +kernel), rfl⟩
theorem wd_1119 : Cond.code ({ cls := "ShadowTailorModel", name := "forget", desc := "()I" } : MethodName) prog_14_method_51_code (2 : Nat) (Option.some FieldType.int) ∈ ax_tbl := List.mem_filter.mpr ⟨List.mem_of_getElem? (i := 1119) (by decide +kernel), rfl⟩
theorem wd_1120 : Cond.methodLink "ShadowTailorLaw" (92 : Nat) ({ cls := "ShadowTailorModel", name := "whose", desc := "()I" } : MethodName) ∈ ax_tbl := List.mem_filter.mpr ⟨List.mem_of_getElem? (i := 1120) (by decide +kernel), rfl⟩
theorem wd_1121 : Cond.instanceMethod ({ cls := "ShadowTailorModel", name := "whose", desc := "()I" } : MethodName) ∈ ax_tbl := List.mem_filter.mpr ⟨List.mem_of_getElem? (i := 1121) (by decide +kernel), rfl⟩
theorem wd_1122 : Cond.selects "ShadowTailorModel" ({ cls := "ShadowTailorModel", name := "whose", desc := "()I" } : MethodName) ({ cls := "ShadowTailorModel", name := "whose", desc := "()I" } : MethodName) ∈ ax_tbl := List.mem_filter.mpr ⟨List.mem_of_getElem? (i := 1122) (by decide +kernel), rfl⟩
theorem wd_1123 : Cond.code ({ cls := "ShadowTailorModel", name := "whose", desc := "()I" } : MethodName) prog_14_method_52_code (5 : Nat) (Option.some FieldType.int) ∈ ax_tbl := List.mem_filter.mpr ⟨List.mem_of_getElem? (i := 1123) (by decide +kernel), rfl⟩
theorem wd_1124 : Cond.methodLink "ShadowTailorLaw" (96 : Nat) ({ cls := "ShadowTailorModel", name := "look", desc := "(I)I" } : MethodName) ∈ ax_tbl := List.mem_filter.mpr ⟨List.mem_of_getElem? (i := 1124) (by decide +kernel), rfl⟩
theorem wd_1125 : Cond.instanceMethod ({ cls := "ShadowTailorModel", name := "look", desc := "(I)I" } : MethodName) ∈ ax_tbl := List.mem_filter.mpr ⟨List.mem_of_getElem? (i := 1125) (by decide +kernel), rfl⟩
theorem wd_1126 : Cond.selects "ShadowTailorModel" ({ cls := "ShadowTailorModel", name := "look", desc := "(I)I" } : MethodName) ({ cls := "ShadowTailorModel", name := "look", desc := "(I)I" } : MethodName) ∈ ax_tbl := List.mem_filter.mpr ⟨List.mem_of_getElem? (i := 1126) (by decide +kernel), rfl⟩
theorem wd_1127 : Cond.code ({ cls := "ShadowTailorModel", name := "look", desc := "(I)I" } : MethodName) prog_14_method_54_code (5 : Nat) (Option.some FieldType.int) ∈ ax_tbl := List.mem_filter.mpr ⟨List.mem_of_getElem? (i := 1127) (by decide +kernel), rfl⟩
theorem wd_1128 : Cond.methodLink "ShadowTailorModel" (220 : Nat) ({ cls := "ShadowTailorModel", name := "whose", desc := "()I" } : MethodName) ∈ ax_tbl := List.mem_filter.mpr ⟨List.mem_of_getElem? (i := 1128) (by decide +kernel), rfl⟩
theorem wd_1129 : Cond.methodLink "ShadowTailorModel" (223 : Nat) ({ cls := "ShadowTailorModel", name := "alike", desc := "(II)I" } : MethodName) ∈ ax_tbl := List.mem_filter.mpr ⟨List.mem_of_getElem? (i := 1129) (by decide +kernel), rfl⟩
theorem wd_1131 : Cond.instanceMethod ({ cls := "ShadowTailorModel", name := "alike", desc := "(II)I" } : MethodName) ∈ ax_tbl := List.mem_filter.mpr ⟨List.mem_of_getElem? (i := 1131) (by decide +kernel), rfl⟩
theorem wd_1132 : Cond.code ({ cls := "ShadowTailorModel", name := "alike", desc := "(II)I" } : MethodName) prog_14_method_53_code (7 : Nat) (Option.some FieldType.int) ∈ ax_tbl := List.mem_filter.mpr ⟨List.mem_of_getElem? (i := 1132) (by decide +kernel), rfl⟩
theorem wd_1133 : Cond.methodLink "ShadowTailorLaw" (100 : Nat) ({ cls := "ShadowTailorModel", name := "cut", desc := "(I)I" } : MethodName) ∈ ax_tbl := List.mem_filter.mpr ⟨List.mem_of_getElem? (i := 1133) (by decide +kernel), rfl⟩
theorem wd_1134 : Cond.instanceMethod ({ cls := "ShadowTailorModel", name := "cut", desc := "(I)I" } : MethodName) ∈ ax_tbl := List.mem_filter.mpr ⟨List.mem_of_getElem? (i := 1134) (by decide +kernel), rfl⟩
theorem wd_1135 : Cond.selects "ShadowTailorModel" ({ cls := "ShadowTailorModel", name := "cut", desc := "(I)I" } : MethodName) ({ cls := "ShadowTailorModel", name := "cut", desc := "(I)I" } : MethodName) ∈ ax_tbl := List.mem_filter.mpr ⟨List.mem_of_getElem? (i := 1135) (by decide +kernel), rfl⟩
theorem wd_1136 : Cond.code ({ cls := "ShadowTailorModel", name := "cut", desc := "(I)I" } : MethodName) prog_14_method_56_code (8 : Nat) (Option.some FieldType.int) ∈ ax_tbl := List.mem_filter.mpr ⟨List.mem_of_getElem? (i := 1136) (by decide +kernel), rfl⟩
theorem wd_1137 : Cond.methodLink "ShadowTailorModel" (232 : Nat) ({ cls := "ShadowTailorModel", name := "shares", desc := "(I)Z" } : MethodName) ∈ ax_tbl := List.mem_filter.mpr ⟨List.mem_of_getElem? (i := 1137) (by decide +kernel), rfl⟩
theorem wd_1139 : Cond.instanceMethod ({ cls := "ShadowTailorModel", name := "shares", desc := "(I)Z" } : MethodName) ∈ ax_tbl := List.mem_filter.mpr ⟨List.mem_of_getElem? (i := 1139) (by decide +kernel), rfl⟩
theorem wd_1140 : Cond.code ({ cls := "ShadowTailorModel", name := "shares", desc := "(I)Z" } : MethodName) prog_14_method_55_code (9 : Nat) (Option.some FieldType.boolean) ∈ ax_tbl := List.mem_filter.mpr ⟨List.mem_of_getElem? (i := 1140) (by decide +kernel), rfl⟩
theorem wd_1141 : Cond.methodLink "ShadowTailorLaw" (104 : Nat) ({ cls := "ShadowTailorModel", name := "fittings", desc := "(I)I" } : MethodName) ∈ ax_tbl := List.mem_filter.mpr ⟨List.mem_of_getElem? (i := 1141) (by decide +kernel), rfl⟩
theorem wd_1142 : Cond.instanceMethod ({ cls := "ShadowTailorModel", name := "fittings", desc := "(I)I" } : MethodName) ∈ ax_tbl := List.mem_filter.mpr ⟨List.mem_of_getElem? (i := 1142) (by decide +kernel), rfl⟩
theorem wd_1143 : Cond.selects "ShadowTailorModel" ({ cls := "ShadowTailorModel", name := "fittings", desc := "(I)I" } : MethodName) ({ cls := "ShadowTailorModel", name := "fittings", desc := "(I)I" } : MethodName) ∈ ax_tbl := List.mem_filter.mpr ⟨List.mem_of_getElem? (i := 1143) (by decide +kernel), rfl⟩
theorem wd_1144 : Cond.code ({ cls := "ShadowTailorModel", name := "fittings", desc := "(I)I" } : MethodName) prog_14_method_58_code (7 : Nat) (Option.some FieldType.int) ∈ ax_tbl := List.mem_filter.mpr ⟨List.mem_of_getElem? (i := 1144) (by decide +kernel), rfl⟩
theorem wd_1145 : Cond.methodLink "ShadowTailorModel" (241 : Nat) ({ cls := "ShadowTailorModel", name := "most", desc := "(II)I" } : MethodName) ∈ ax_tbl := List.mem_filter.mpr ⟨List.mem_of_getElem? (i := 1145) (by decide +kernel), rfl⟩
theorem wd_1146 : Cond.static ({ cls := "ShadowTailorModel", name := "most", desc := "(II)I" } : MethodName) ∈ ax_tbl := List.mem_filter.mpr ⟨List.mem_of_getElem? (i := 1146) (by decide +kernel), rfl⟩
theorem wd_1147 : Cond.code ({ cls := "ShadowTailorModel", name := "most", desc := "(II)I" } : MethodName) prog_14_method_59_code (2 : Nat) (Option.some FieldType.int) ∈ ax_tbl := List.mem_filter.mpr ⟨List.mem_of_getElem? (i := 1147) (by decide +kernel), rfl⟩
theorem wd_1148 : Cond.methodLink "ShadowTailorModel" (244 : Nat) ({ cls := "ShadowTailorModel", name := "arranges", desc := "(I)V" } : MethodName) ∈ ax_tbl := List.mem_filter.mpr ⟨List.mem_of_getElem? (i := 1148) (by decide +kernel), rfl⟩
theorem wd_1150 : Cond.instanceMethod ({ cls := "ShadowTailorModel", name := "arranges", desc := "(I)V" } : MethodName) ∈ ax_tbl := List.mem_filter.mpr ⟨List.mem_of_getElem? (i := 1150) (by decide +kernel), rfl⟩
theorem wd_1151 : Cond.code ({ cls := "ShadowTailorModel", name := "arranges", desc := "(I)V" } : MethodName) prog_14_method_57_code (9 : Nat) (Option.none : Option FieldType) ∈ ax_tbl := List.mem_filter.mpr ⟨List.mem_of_getElem? (i := 1151) (by decide +kernel), rfl⟩
theorem wd_1152 : Cond.methodLink "ShadowTailorLaw" (108 : Nat) ({ cls := "ShadowTailorModel", name := "watchers", desc := "(II)I" } : MethodName) ∈ ax_tbl := List.mem_filter.mpr ⟨List.mem_of_getElem? (i := 1152) (by decide +kernel), rfl⟩
theorem wd_1153 : Cond.instanceMethod ({ cls := "ShadowTailorModel", name := "watchers", desc := "(II)I" } : MethodName) ∈ ax_tbl := List.mem_filter.mpr ⟨List.mem_of_getElem? (i := 1153) (by decide +kernel), rfl⟩
theorem wd_1154 : Cond.selects "ShadowTailorModel" ({ cls := "ShadowTailorModel", name := "watchers", desc := "(II)I" } : MethodName) ({ cls := "ShadowTailorModel", name := "watchers", desc := "(II)I" } : MethodName) ∈ ax_tbl := List.mem_filter.mpr ⟨List.mem_of_getElem? (i := 1154) (by decide +kernel), rfl⟩
theorem wd_1155 : Cond.code ({ cls := "ShadowTailorModel", name := "watchers", desc := "(II)I" } : MethodName) prog_14_method_63_code (9 : Nat) (Option.some FieldType.int) ∈ ax_tbl := List.mem_filter.mpr ⟨List.mem_of_getElem? (i := 1155) (by decide +kernel), rfl⟩
theorem wd_1156 : Cond.methodLink "ShadowTailorModel" (251 : Nat) ({ cls := "ShadowTailorModel", name := "nearest", desc := "(II)I" } : MethodName) ∈ ax_tbl := List.mem_filter.mpr ⟨List.mem_of_getElem? (i := 1156) (by decide +kernel), rfl⟩
theorem wd_1158 : Cond.instanceMethod ({ cls := "ShadowTailorModel", name := "nearest", desc := "(II)I" } : MethodName) ∈ ax_tbl := List.mem_filter.mpr ⟨List.mem_of_getElem? (i := 1158) (by decide +kernel), rfl⟩
theorem wd_1159 : Cond.code ({ cls := "ShadowTailorModel", name := "nearest", desc := "(II)I" } : MethodName) prog_14_method_62_code (5 : Nat) (Option.some FieldType.int) ∈ ax_tbl := List.mem_filter.mpr ⟨List.mem_of_getElem? (i := 1159) (by decide +kernel), rfl⟩
theorem wd_1160 : Cond.methodLink "ShadowTailorModel" (248 : Nat) ({ cls := "ShadowTailorModel", name := "highAt", desc := "(II)I" } : MethodName) ∈ ax_tbl := List.mem_filter.mpr ⟨List.mem_of_getElem? (i := 1160) (by decide +kernel), rfl⟩
theorem wd_1162 : Cond.instanceMethod ({ cls := "ShadowTailorModel", name := "highAt", desc := "(II)I" } : MethodName) ∈ ax_tbl := List.mem_filter.mpr ⟨List.mem_of_getElem? (i := 1162) (by decide +kernel), rfl⟩
theorem wd_1163 : Cond.code ({ cls := "ShadowTailorModel", name := "highAt", desc := "(II)I" } : MethodName) prog_14_method_61_code (3 : Nat) (Option.some FieldType.int) ∈ ax_tbl := List.mem_filter.mpr ⟨List.mem_of_getElem? (i := 1163) (by decide +kernel), rfl⟩
theorem wd_1164 : Cond.methodLink "ShadowTailorModel" (254 : Nat) ({ cls := "ShadowTailorModel", name := "lowAt", desc := "(II)I" } : MethodName) ∈ ax_tbl := List.mem_filter.mpr ⟨List.mem_of_getElem? (i := 1164) (by decide +kernel), rfl⟩
theorem wd_1166 : Cond.instanceMethod ({ cls := "ShadowTailorModel", name := "lowAt", desc := "(II)I" } : MethodName) ∈ ax_tbl := List.mem_filter.mpr ⟨List.mem_of_getElem? (i := 1166) (by decide +kernel), rfl⟩
theorem wd_1167 : Cond.code ({ cls := "ShadowTailorModel", name := "lowAt", desc := "(II)I" } : MethodName) prog_14_method_60_code (3 : Nat) (Option.some FieldType.int) ∈ ax_tbl := List.mem_filter.mpr ⟨List.mem_of_getElem? (i := 1167) (by decide +kernel), rfl⟩
theorem wd_1168 : Cond.methodLink "ShadowTailorLaw" (112 : Nat) ({ cls := "ShadowTailorModel", name := "poplar", desc := "(II)I" } : MethodName) ∈ ax_tbl := List.mem_filter.mpr ⟨List.mem_of_getElem? (i := 1168) (by decide +kernel), rfl⟩
theorem wd_1169 : Cond.instanceMethod ({ cls := "ShadowTailorModel", name := "poplar", desc := "(II)I" } : MethodName) ∈ ax_tbl := List.mem_filter.mpr ⟨List.mem_of_getElem? (i := 1169) (by decide +kernel), rfl⟩
theorem wd_1170 : Cond.selects "ShadowTailorModel" ({ cls := "ShadowTailorModel", name := "poplar", desc := "(II)I" } : MethodName) ({ cls := "ShadowTailorModel", name := "poplar", desc := "(II)I" } : MethodName) ∈ ax_tbl := List.mem_filter.mpr ⟨List.mem_of_getElem? (i := 1170) (by decide +kernel), rfl⟩
theorem wd_1171 : Cond.code ({ cls := "ShadowTailorModel", name := "poplar", desc := "(II)I" } : MethodName) prog_14_method_64_code (3 : Nat) (Option.some FieldType.int) ∈ ax_tbl := List.mem_filter.mpr ⟨List.mem_of_getElem? (i := 1171) (by decide +kernel), rfl⟩
theorem wd_1172 : Cond.methodLink "ShadowTailorLaw" (116 : Nat) ({ cls := "ShadowTailorModel", name := "light", desc := "(I)I" } : MethodName) ∈ ax_tbl := List.mem_filter.mpr ⟨List.mem_of_getElem? (i := 1172) (by decide +kernel), rfl⟩
theorem wd_1173 : Cond.instanceMethod ({ cls := "ShadowTailorModel", name := "light", desc := "(I)I" } : MethodName) ∈ ax_tbl := List.mem_filter.mpr ⟨List.mem_of_getElem? (i := 1173) (by decide +kernel), rfl⟩
theorem wd_1174 : Cond.selects "ShadowTailorModel" ({ cls := "ShadowTailorModel", name := "light", desc := "(I)I" } : MethodName) ({ cls := "ShadowTailorModel", name := "light", desc := "(I)I" } : MethodName) ∈ ax_tbl := List.mem_filter.mpr ⟨List.mem_of_getElem? (i := 1174) (by decide +kernel), rfl⟩
theorem wd_1175 : Cond.code ({ cls := "ShadowTailorModel", name := "light", desc := "(I)I" } : MethodName) prog_14_method_65_code (4 : Nat) (Option.some FieldType.int) ∈ ax_tbl := List.mem_filter.mpr ⟨List.mem_of_getElem? (i := 1175) (by decide +kernel), rfl⟩
theorem wd_1176 : Cond.methodLink "ShadowTailorModel" (257 : Nat) ({ cls := "ShadowTailorModel", name := "covers", desc := "(II)I" } : MethodName) ∈ ax_tbl := List.mem_filter.mpr ⟨List.mem_of_getElem? (i := 1176) (by decide +kernel), rfl⟩
theorem wd_1177 : Cond.methodLink "ShadowTailorLaw" (121 : Nat) ({ cls := "ShadowTailorModel", name := "clouds", desc := "(IIIII)J" } : MethodName) ∈ ax_tbl := List.mem_filter.mpr ⟨List.mem_of_getElem? (i := 1177) (by decide +kernel), rfl⟩
theorem wd_1178 : Cond.instanceMethod ({ cls := "ShadowTailorModel", name := "clouds", desc := "(IIIII)J" } : MethodName) ∈ ax_tbl := List.mem_filter.mpr ⟨List.mem_of_getElem? (i := 1178) (by decide +kernel), rfl⟩
theorem wd_1179 : Cond.selects "ShadowTailorModel" ({ cls := "ShadowTailorModel", name := "clouds", desc := "(IIIII)J" } : MethodName) ({ cls := "ShadowTailorModel", name := "clouds", desc := "(IIIII)J" } : MethodName) ∈ ax_tbl := List.mem_filter.mpr ⟨List.mem_of_getElem? (i := 1179) (by decide +kernel), rfl⟩
theorem wd_1180 : Cond.code ({ cls := "ShadowTailorModel", name := "clouds", desc := "(IIIII)J" } : MethodName) prog_14_method_66_code (16 : Nat) (Option.some FieldType.long) ∈ ax_tbl := List.mem_filter.mpr ⟨List.mem_of_getElem? (i := 1180) (by decide +kernel), rfl⟩
theorem wd_1181 : Cond.constantLong "ShadowTailorModel" (260 : Nat) (-1 : Int64) ∈ ax_tbl := List.mem_filter.mpr ⟨List.mem_of_getElem? (i := 1181) (by decide +kernel), rfl⟩
theorem wd_1182 : Cond.constantLong "ShadowTailorModel" (262 : Nat) (10 : Int64) ∈ ax_tbl := List.mem_filter.mpr ⟨List.mem_of_getElem? (i := 1182) (by decide +kernel), rfl⟩
theorem wd_1183 : Cond.methodLink "ShadowTailorLaw" (125 : Nat) ({ cls := "ShadowTailorModel", name := "day", desc := "(II)I" } : MethodName) ∈ ax_tbl := List.mem_filter.mpr ⟨List.mem_of_getElem? (i := 1183) (by decide +kernel), rfl⟩
theorem wd_1184 : Cond.instanceMethod ({ cls := "ShadowTailorModel", name := "day", desc := "(II)I" } : MethodName) ∈ ax_tbl := List.mem_filter.mpr ⟨List.mem_of_getElem? (i := 1184) (by decide +kernel), rfl⟩
theorem wd_1185 : Cond.selects "ShadowTailorModel" ({ cls := "ShadowTailorModel", name := "day", desc := "(II)I" } : MethodName) ({ cls := "ShadowTailorModel", name := "day", desc := "(II)I" } : MethodName) ∈ ax_tbl := List.mem_filter.mpr ⟨List.mem_of_getElem? (i := 1185) (by decide +kernel), rfl⟩
theorem wd_1186 : Cond.code ({ cls := "ShadowTailorModel", name := "day", desc := "(II)I" } : MethodName) prog_14_method_68_code (10 : Nat) (Option.some FieldType.int) ∈ ax_tbl := List.mem_filter.mpr ⟨List.mem_of_getElem? (i := 1186) (by decide +kernel), rfl⟩
theorem wd_1187 : Cond.methodLink "ShadowTailorModel" (274 : Nat) ({ cls := "ShadowTailorModel", name := "drawn", desc := "(III)I" } : MethodName) ∈ ax_tbl := List.mem_filter.mpr ⟨List.mem_of_getElem? (i := 1187) (by decide +kernel), rfl⟩
theorem wd_1188 : Cond.static ({ cls := "ShadowTailorModel", name := "drawn", desc := "(III)I" } : MethodName) ∈ ax_tbl := List.mem_filter.mpr ⟨List.mem_of_getElem? (i := 1188) (by decide +kernel), rfl⟩
theorem wd_1189 : Cond.code ({ cls := "ShadowTailorModel", name := "drawn", desc := "(III)I" } : MethodName) prog_14_method_67_code (5 : Nat) (Option.some FieldType.int) ∈ ax_tbl := List.mem_filter.mpr ⟨List.mem_of_getElem? (i := 1189) (by decide +kernel), rfl⟩
theorem wd_1190 : Cond.constantLong "ShadowTailorModel" (264 : Nat) (7919 : Int64) ∈ ax_tbl := List.mem_filter.mpr ⟨List.mem_of_getElem? (i := 1190) (by decide +kernel), rfl⟩
theorem wd_1191 : Cond.constantLong "ShadowTailorModel" (266 : Nat) (6151 : Int64) ∈ ax_tbl := List.mem_filter.mpr ⟨List.mem_of_getElem? (i := 1191) (by decide +kernel), rfl⟩
theorem wd_1192 : Cond.constantLong "ShadowTailorModel" (268 : Nat) (3571 : Int64) ∈ ax_tbl := List.mem_filter.mpr ⟨List.mem_of_getElem? (i := 1192) (by decide +kernel), rfl⟩
theorem wd_1193 : Cond.constantLong "ShadowTailorModel" (270 : Nat) (65521 : Int64) ∈ ax_tbl := List.mem_filter.mpr ⟨List.mem_of_getElem? (i := 1193) (by decide +kernel), rfl⟩
theorem wd_1194 : Cond.constantLong "ShadowTailorModel" (272 : Nat) (61 : Int64) ∈ ax_tbl := List.mem_filter.mpr ⟨List.mem_of_getElem? (i := 1194) (by decide +kernel), rfl⟩
theorem wd_1195 : Cond.methodLink "ShadowTailorLaw" (129 : Nat) ({ cls := "ShadowTailorModel", name := "keep", desc := "()I" } : MethodName) ∈ ax_tbl := List.mem_filter.mpr ⟨List.mem_of_getElem? (i := 1195) (by decide +kernel), rfl⟩
theorem wd_1196 : Cond.instanceMethod ({ cls := "ShadowTailorModel", name := "keep", desc := "()I" } : MethodName) ∈ ax_tbl := List.mem_filter.mpr ⟨List.mem_of_getElem? (i := 1196) (by decide +kernel), rfl⟩
theorem wd_1197 : Cond.selects "ShadowTailorModel" ({ cls := "ShadowTailorModel", name := "keep", desc := "()I" } : MethodName) ({ cls := "ShadowTailorModel", name := "keep", desc := "()I" } : MethodName) ∈ ax_tbl := List.mem_filter.mpr ⟨List.mem_of_getElem? (i := 1197) (by decide +kernel), rfl⟩
theorem wd_1198 : Cond.code ({ cls := "ShadowTailorModel", name := "keep", desc := "()I" } : MethodName) prog_14_method_69_code (2 : Nat) (Option.some FieldType.int) ∈ ax_tbl := List.mem_filter.mpr ⟨List.mem_of_getElem? (i := 1198) (by decide +kernel), rfl⟩
theorem wd_1199 : Cond.methodLink "ShadowTailorLaw" (133 : Nat) ({ cls := "ShadowTailorModel", name := "back", desc := "()I" } : MethodName) ∈ ax_tbl := List.mem_filter.mpr ⟨List.mem_of_getElem? (i := 1199) (by decide +kernel), rfl⟩
theorem wd_1200 : Cond.instanceMethod ({ cls := "ShadowTailorModel", name := "back", desc := "()I" } : MethodName) ∈ ax_tbl := List.mem_filter.mpr ⟨List.mem_of_getElem? (i := 1200) (by decide +kernel), rfl⟩
theorem wd_1201 : Cond.selects "ShadowTailorModel" ({ cls := "ShadowTailorModel", name := "back", desc := "()I" } : MethodName) ({ cls := "ShadowTailorModel", name := "back", desc := "()I" } : MethodName) ∈ ax_tbl := List.mem_filter.mpr ⟨List.mem_of_getElem? (i := 1201) (by decide +kernel), rfl⟩
theorem wd_1202 : Cond.code ({ cls := "ShadowTailorModel", name := "back", desc := "()I" } : MethodName) prog_14_method_70_code (2 : Nat) (Option.some FieldType.int) ∈ ax_tbl := List.mem_filter.mpr ⟨List.mem_of_getElem? (i := 1202) (by decide +kernel), rfl⟩
theorem wd_1203 : Cond.methodLink "ShadowTailorLaw" (137 : Nat) ({ cls := "ShadowTailorModel", name := "count", desc := "(I)I" } : MethodName) ∈ ax_tbl := List.mem_filter.mpr ⟨List.mem_of_getElem? (i := 1203) (by decide +kernel), rfl⟩
theorem wd_1204 : Cond.instanceMethod ({ cls := "ShadowTailorModel", name := "count", desc := "(I)I" } : MethodName) ∈ ax_tbl := List.mem_filter.mpr ⟨List.mem_of_getElem? (i := 1204) (by decide +kernel), rfl⟩
theorem wd_1205 : Cond.selects "ShadowTailorModel" ({ cls := "ShadowTailorModel", name := "count", desc := "(I)I" } : MethodName) ({ cls := "ShadowTailorModel", name := "count", desc := "(I)I" } : MethodName) ∈ ax_tbl := List.mem_filter.mpr ⟨List.mem_of_getElem? (i := 1205) (by decide +kernel), rfl⟩
theorem wd_1206 : Cond.code ({ cls := "ShadowTailorModel", name := "count", desc := "(I)I" } : MethodName) prog_14_method_71_code (2 : Nat) (Option.some FieldType.int) ∈ ax_tbl := List.mem_filter.mpr ⟨List.mem_of_getElem? (i := 1206) (by decide +kernel), rfl⟩
end
section
/-! simulation rows, printed -/
theorem tm_0_0 : ax_all1 (ax_Sim ax_ME true RX0 cX0_init 1 none) 0 [some (a_aload 0 1), some (a_oinit 4), none, none, some (a_aload 0 5), some (a_iconst 8 7), none, some (a_newa 100 8 9), none, some (a_putR 0 3 0 12), none, none, some (a_aload 0 13), some (a_iconst 8 15), none, some (a_newa 100 8 17)] := ⟨sm_aload_n (show decode _ _ = .ok (.aload_n 0, 1) by decide +kernel) rfl rfl, ⟨sm_oinit (show decode _ _ = .ok (.invokespecial 3, 3) by decide +kernel) wd_100 wd_66 wd_67 rfl, ⟨sm_aload_n (show decode _ _ = .ok (.aload_n 0, 1) by decide +kernel) rfl rfl, ⟨sm_bipush (show decode _ _ = .ok (.bipush 8, 2) by decide +kernel) (by decide +kernel) rfl, ⟨sm_newai (show decode _ _ = .ok (.newarray .int, 2) by decide +kernel) wd_94 (by decide) rfl, ⟨sm_putRF (C := RX0) (T := TX0) (ty := .array .int) (show decode _ _ = .ok (.putfield 9, 3) by decide +kernel) wd_101 inX0 tyX0 tyX0_ok nmX0 rfl (by decide) rfl rfl (by decide) rfl rfl rfl (by decide +kernel) (Or.inr ⟨_, rfl⟩) rfl, ⟨sm_aload_n (show decode _ _ = .ok (.aload_n 0, 1) by decide +kernel) rfl rfl, ⟨sm_bipush (show decode _ _ = .ok (.bipush 8, 2) by decide +kernel) (by decide +kernel) rfl, ⟨sm_newai (show decode _ _ = .ok (.newarray .int, 2) by decide +kernel) wd_94 (by decide) rfl, trivial⟩⟩⟩⟩⟩⟩⟩⟩⟩
theorem tm_0_1 : ax_all1 (ax_Sim ax_ME true RX0 cX0_init 1 none) 16 [none, some (a_putR 0 3 1 20), none, none, some (a_vret)] := ⟨sm_putRF (C := RX0) (T := TX0) (ty := .array .int) (show decode _ _ = .ok (.putfield 15, 3) by decide +kernel) wd_102 inX0 tyX0 tyX0_ok nmX0 rfl (by decide) rfl rfl (by decide) rfl rfl rfl (by decide +kernel) (Or.inr ⟨_, rfl⟩) rfl, ⟨sm_vret (show decode _ _ = .ok (.return_, 1) by decide +kernel) rfl, trivial⟩⟩
theorem tm_0 : ∀ (pc : Nat) (act : ax_Act), ax_row t_0 pc = some act → ax_Sim ax_ME true RX0 cX0_init 1 none pc act := ax_row_all ⟨tm_0_0, ⟨tm_0_1, trivial⟩⟩
theorem tm_1_0 : ax_all1 (ax_Sim ax_ME false RX0 cX0_add 3 none) 0 [some (a_aload 0 1), some (a_getI 0 3 2 4), none, none, some (a_iconst 8 6), none, some (a_clt 13 9), none, none, some (a_aload 0 10), some (a_callV 0 3 2 0 13), none, none, some (a_aload 0 14), some (a_getR 0 3 0 17), none] := ⟨sm_aload_n (show decode _ _ = .ok (.aload_n 0, 1) by decide +kernel) rfl rfl, ⟨sm_getI (C := RX0) (T := TX0) (show decode _ _ = .ok (.getfield 18, 3) by decide +kernel) wd_103 inX0 rfl (by decide) rfl rfl (by decide) rfl, ⟨sm_bipush (show decode _ _ = .ok (.bipush 8, 2) by decide +kernel) (by decide +kernel) rfl, ⟨sm_clt (show decode _ _ = .ok (.if_icmp .lt 7, 3) by decide +kernel) (by decide) rfl, ⟨sm_aload_n (show decode _ _ = .ok (.aload_n 0, 1) by decide +kernel) rfl rfl, ⟨sm_callV (C := RX0) (T := TX0) (show decode _ _ = .ok (.invokevirtual 22, 3) by decide +kernel) rfl rfl (by decide) wd_613 wd_615 wd_43 wd_616 wd_4 ⟨by decide +kernel, by decide +kernel, by decide +kernel⟩ rfl, ⟨sm_aload_n (show decode _ _ = .ok (.aload_n 0, 1) by decide +kernel) rfl rfl, ⟨sm_getR (C := RX0) (T := TX0) (show decode _ _ = .ok (.getfield 9, 3) by decide +kernel) wd_101 inX0 rfl (by decide) rfl rfl (by decide) rfl, trivial⟩⟩⟩⟩⟩⟩⟩⟩
theorem tm_1_1 : ax_all1 (ax_Sim ax_ME false RX0 cX0_add 3 none) 16 [none, some (a_aload 0 18), some (a_getI 0 3 2 21), none, none, some (a_iload 1 22), some (a_iast 23), some (a_aload 0 24), some (a_getR 0 3 1 27), none, none, some (a_aload 0 28), some (a_getI 0 3 2 31), none, none, some (a_iload 2 32)] := ⟨sm_aload_n (show decode _ _ = .ok (.aload_n 0, 1) by decide +kernel) rfl rfl, ⟨sm_getI (C := RX0) (T := TX0) (show decode _ _ = .ok (.getfield 18, 3) by decide +kernel) wd_103 inX0 rfl (by decide) rfl rfl (by decide) rfl, ⟨sm_iload_n (show decode _ _ = .ok (.iload_n 1, 1) by decide +kernel) rfl rfl, ⟨sm_iast (show decode _ _ = .ok (.iastore, 1) by decide +kernel) rfl, ⟨sm_aload_n (show decode _ _ = .ok (.aload_n 0, 1) by decide +kernel) rfl rfl, ⟨sm_getR (C := RX0) (T := TX0) (show decode _ _ = .ok (.getfield 15, 3) by decide +kernel) wd_102 inX0 rfl (by decide) rfl rfl (by decide) rfl, ⟨sm_aload_n (show decode _ _ = .ok (.aload_n 0, 1) by decide +kernel) rfl rfl, ⟨sm_getI (C := RX0) (T := TX0) (show decode _ _ = .ok (.getfield 18, 3) by decide +kernel) wd_103 inX0 rfl (by decide) rfl rfl (by decide) rfl, ⟨sm_iload_n (show decode _ _ = .ok (.iload_n 2, 1) by decide +kernel) rfl rfl, trivial⟩⟩⟩⟩⟩⟩⟩⟩⟩
theorem tm_1_2 : ax_all1 (ax_Sim ax_ME false RX0 cX0_add 3 none) 32 [some (a_iast 33), some (a_aload 0 34), some (a_dup 35), some (a_getI 0 3 2 38), none, none, some (a_iconst 1 39), some (a_iadd 40), some (a_putI 0 3 2 43), none, none, some (a_vret)] := ⟨sm_iast (show decode _ _ = .ok (.iastore, 1) by decide +kernel) rfl, ⟨sm_aload_n (show decode _ _ = .ok (.aload_n 0, 1) by decide +kernel) rfl rfl, ⟨sm_dup (show decode _ _ = .ok (.dup, 1) by decide +kernel) rfl, ⟨sm_getI (C := RX0) (T := TX0) (show decode _ _ = .ok (.getfield 18, 3) by decide +kernel) wd_103 inX0 rfl (by decide) rfl rfl (by decide) rfl, ⟨sm_iconst (show decode _ _ = .ok (.iconst 1, 1) by decide +kernel) (by decide +kernel) rfl, ⟨sm_iadd (show decode _ _ = .ok (.iadd, 1) by decide +kernel) rfl, ⟨sm_putI (C := RX0) (T := TX0) (show decode _ _ = .ok (.putfield 18, 3) by decide +kernel) wd_103 inX0 tyX0 tyX0_ok nmX0 rfl (by decide) rfl rfl (by decide) rfl (by decide +kernel) rfl, ⟨sm_vret (show decode _ _ = .ok (.return_, 1) by decide +kernel) rfl, trivial⟩⟩⟩⟩⟩⟩⟩⟩
theorem tm_1 : ∀ (pc : Nat) (act : ax_Act), ax_row t_1 pc = some act → ax_Sim ax_ME false RX0 cX0_add 3 none pc act := ax_row_all ⟨tm_1_0, ⟨tm_1_1, ⟨tm_1_2, trivial⟩⟩⟩
theorem tm_2_0 : ax_all1 (ax_Sim ax_ME false RX0 cX0_dropOldest 2 none) 0 [some (a_iconst 1 1), some (a_istore 1 2), some (a_iload 1 3), some (a_aload 0 4), some (a_getI 0 3 2 7), none, none, some (a_cge 44 10), none, none, some (a_aload 0 11), some (a_getR 0 3 0 14), none, none, some (a_iload 1 15), some (a_iconst 1 16)] := ⟨sm_iconst (show decode _ _ = .ok (.iconst 1, 1) by decide +kernel) (by decide +kernel) rfl, ⟨sm_istore_n (show decode _ _ = .ok (.istore_n 1, 1) by decide +kernel) rfl (by decide) rfl, ⟨sm_iload_n (show decode _ _ = .ok (.iload_n 1, 1) by decide +kernel) rfl rfl, ⟨sm_aload_n (show decode _ _ = .ok (.aload_n 0, 1) by decide +kernel) rfl rfl, ⟨sm_getI (C := RX0) (T := TX0) (show decode _ _ = .ok (.getfield 18, 3) by decide +kernel) wd_103 inX0 rfl (by decide) rfl rfl (by decide) rfl, ⟨sm_cge (show decode _ _ = .ok (.if_icmp .ge 37, 3) by decide +kernel) (by decide) rfl, ⟨sm_aload_n (show decode _ _ = .ok (.aload_n 0, 1) by decide +kernel) rfl rfl, ⟨sm_getR (C := RX0) (T := TX0) (show decode _ _ = .ok (.getfield 9, 3) by decide +kernel) wd_101 inX0 rfl (by decide) rfl rfl (by decide) rfl, ⟨sm_iload_n (show decode _ _ = .ok (.iload_n 1, 1) by decide +kernel) rfl rfl, ⟨sm_iconst (show decode _ _ = .ok (.iconst 1, 1) by decide +kernel) (by decide +kernel) rfl, trivial⟩⟩⟩⟩⟩⟩⟩⟩⟩⟩
theorem tm_2_1 : ax_all1 (ax_Sim ax_ME false RX0 cX0_dropOldest 2 none) 16 [some (a_isub 17), some (a_aload 0 18), some (a_getR 0 3 0 21), none, none, some (a_iload 1 22), some (a_iald 23), some (a_iast 24), some (a_aload 0 25), some (a_getR 0 3 1 28), none, none, some (a_iload 1 29), some (a_iconst 1 30), some (a_isub 31), some (a_aload 0 32)] := ⟨sm_isub (show decode _ _ = .ok (.isub, 1) by decide +kernel) rfl, ⟨sm_aload_n (show decode _ _ = .ok (.aload_n 0, 1) by decide +kernel) rfl rfl, ⟨sm_getR (C := RX0) (T := TX0) (show decode _ _ = .ok (.getfield 9, 3) by decide +kernel) wd_101 inX0 rfl (by decide) rfl rfl (by decide) rfl, ⟨sm_iload_n (show decode _ _ = .ok (.iload_n 1, 1) by decide +kernel) rfl rfl, ⟨sm_iald (show decode _ _ = .ok (.iaload, 1) by decide +kernel) rfl, ⟨sm_iast (show decode _ _ = .ok (.iastore, 1) by decide +kernel) rfl, ⟨sm_aload_n (show decode _ _ = .ok (.aload_n 0, 1) by decide +kernel) rfl rfl, ⟨sm_getR (C := RX0) (T := TX0) (show decode _ _ = .ok (.getfield 15, 3) by decide +kernel) wd_102 inX0 rfl (by decide) rfl rfl (by decide) rfl, ⟨sm_iload_n (show decode _ _ = .ok (.iload_n 1, 1) by decide +kernel) rfl rfl, ⟨sm_iconst (show decode _ _ = .ok (.iconst 1, 1) by decide +kernel) (by decide +kernel) rfl, ⟨sm_isub (show decode _ _ = .ok (.isub, 1) by decide +kernel) rfl, ⟨sm_aload_n (show decode _ _ = .ok (.aload_n 0, 1) by decide +kernel) rfl rfl, trivial⟩⟩⟩⟩⟩⟩⟩⟩⟩⟩⟩⟩
theorem tm_2_2 : ax_all1 (ax_Sim ax_ME false RX0 cX0_dropOldest 2 none) 32 [some (a_getR 0 3 1 35), none, none, some (a_iload 1 36), some (a_iald 37), some (a_iast 38), some (a_iinc 1 1 41), none, none, some (a_goto 2), none, none, some (a_aload 0 45), some (a_dup 46), some (a_getI 0 3 2 49), none] := ⟨sm_getR (C := RX0) (T := TX0) (show decode _ _ = .ok (.getfield 15, 3) by decide +kernel) wd_102 inX0 rfl (by decide) rfl rfl (by decide) rfl, ⟨sm_iload_n (show decode _ _ = .ok (.iload_n 1, 1) by decide +kernel) rfl rfl, ⟨sm_iald (show decode _ _ = .ok (.iaload, 1) by decide +kernel) rfl, ⟨sm_iast (show decode _ _ = .ok (.iastore, 1) by decide +kernel) rfl, ⟨sm_iinc (show decode _ _ = .ok (.iinc 1 1, 3) by decide +kernel) (by decide +kernel) (by decide) rfl, ⟨sm_goto (show decode _ _ = .ok (.goto (-39), 3) by decide +kernel) (by decide), ⟨sm_aload_n (show decode _ _ = .ok (.aload_n 0, 1) by decide +kernel) rfl rfl, ⟨sm_dup (show decode _ _ = .ok (.dup, 1) by decide +kernel) rfl, ⟨sm_getI (C := RX0) (T := TX0) (show decode _ _ = .ok (.getfield 18, 3) by decide +kernel) wd_103 inX0 rfl (by decide) rfl rfl (by decide) rfl, trivial⟩⟩⟩⟩⟩⟩⟩⟩⟩
theorem tm_2_3 : ax_all1 (ax_Sim ax_ME false RX0 cX0_dropOldest 2 none) 48 [none, some (a_iconst 1 50), some (a_isub 51), some (a_putI 0 3 2 54), none, none, some (a_vret)] := ⟨sm_iconst (show decode _ _ = .ok (.iconst 1, 1) by decide +kernel) (by decide +kernel) rfl, ⟨sm_isub (show decode _ _ = .ok (.isub, 1) by decide +kernel) rfl, ⟨sm_putI (C := RX0) (T := TX0) (show decode _ _ = .ok (.putfield 18, 3) by decide +kernel) wd_103 inX0 tyX0 tyX0_ok nmX0 rfl (by decide) rfl rfl (by decide) rfl (by decide +kernel) rfl, ⟨sm_vret (show decode _ _ = .ok (.return_, 1) by decide +kernel) rfl, trivial⟩⟩⟩⟩
theorem tm_2 : ∀ (pc : Nat) (act : ax_Act), ax_row t_2 pc = some act → ax_Sim ax_ME false RX0 cX0_dropOldest 2 none pc act := ax_row_all ⟨tm_2_0, ⟨tm_2_1, ⟨tm_2_2, ⟨tm_2_3, trivial⟩⟩⟩⟩
theorem tm_3_0 : ax_all1 (ax_Sim ax_ME false RX0 cX0_takeBack 2 (some FieldType.boolean)) 0 [some (a_aload 0 1), some (a_getI 0 3 2 4), none, none, some (a_zne 9 7), none, none, some (a_iconst 0 8), some (a_zret), some (a_aload 0 10), some (a_dup 11), some (a_getI 0 3 2 14), none, none, some (a_iconst 1 15), some (a_isub 16)] := ⟨sm_aload_n (show decode _ _ = .ok (.aload_n 0, 1) by decide +kernel) rfl rfl, ⟨sm_getI (C := RX0) (T := TX0) (show decode _ _ = .ok (.getfield 18, 3) by decide +kernel) wd_103 inX0 rfl (by decide) rfl rfl (by decide) rfl, ⟨sm_zne (show decode _ _ = .ok (.ifCond .ne 5, 3) by decide +kernel) (by decide) rfl, ⟨sm_iconst (show decode _ _ = .ok (.iconst 0, 1) by decide +kernel) (by decide +kernel) rfl, ⟨sm_zret (show decode _ _ = .ok (.ireturn, 1) by decide +kernel) rfl, ⟨sm_aload_n (show decode _ _ = .ok (.aload_n 0, 1) by decide +kernel) rfl rfl, ⟨sm_dup (show decode _ _ = .ok (.dup, 1) by decide +kernel) rfl, ⟨sm_getI (C := RX0) (T := TX0) (show decode _ _ = .ok (.getfield 18, 3) by decide +kernel) wd_103 inX0 rfl (by decide) rfl rfl (by decide) rfl, ⟨sm_iconst (show decode _ _ = .ok (.iconst 1, 1) by decide +kernel) (by decide +kernel) rfl, ⟨sm_isub (show decode _ _ = .ok (.isub, 1) by decide +kernel) rfl, trivial⟩⟩⟩⟩⟩⟩⟩⟩⟩⟩
theorem tm_3_1 : ax_all1 (ax_Sim ax_ME false RX0 cX0_takeBack 2 (some FieldType.boolean)) 16 [some (a_putI 0 3 2 19), none, none, some (a_aload 0 20), some (a_getR 0 3 0 23), none, none, some (a_aload 0 24), some (a_getI 0 3 2 27), none, none, some (a_iald 28), some (a_iconst (-1) 29), some (a_cne 45 32), none, none] := ⟨sm_putI (C := RX0) (T := TX0) (show decode _ _ = .ok (.putfield 18, 3) by decide +kernel) wd_103 inX0 tyX0 tyX0_ok nmX0 rfl (by decide) rfl rfl (by decide) rfl (by decide +kernel) rfl, ⟨sm_aload_n (show decode _ _ = .ok (.aload_n 0, 1) by decide +kernel) rfl rfl, ⟨sm_getR (C := RX0) (T := TX0) (show decode _ _ = .ok (.getfield 9, 3) by decide +kernel) wd_101 inX0 rfl (by decide) rfl rfl (by decide) rfl, ⟨sm_aload_n (show decode _ _ = .ok (.aload_n 0, 1) by decide +kernel) rfl rfl, ⟨sm_getI (C := RX0) (T := TX0) (show decode _ _ = .ok (.getfield 18, 3) by decide +kernel) wd_103 inX0 rfl (by decide) rfl rfl (by decide) rfl, ⟨sm_iald (show decode _ _ = .ok (.iaload, 1) by decide +kernel) rfl, ⟨sm_iconst (show decode _ _ = .ok (.iconst (-1), 1) by decide +kernel) (by decide +kernel) rfl, ⟨sm_cne (show decode _ _ = .ok (.if_icmp .ne 16, 3) by decide +kernel) (by decide) rfl, trivial⟩⟩⟩⟩⟩⟩⟩⟩
theorem tm_3_2 : ax_all1 (ax_Sim ax_ME false RX0 cX0_takeBack 2 (some FieldType.boolean)) 32 [some (a_aload 1 33), some (a_dup 34), some (a_getI 5 5 4 37), none, none, some (a_iconst 1 38), some (a_isub 39), some (a_putI 5 5 4 42), none, none, some (a_goto 68), none, none, some (a_aload 1 46), some (a_getR 5 5 0 49), none] := ⟨sm_aload_n (show decode _ _ = .ok (.aload_n 1, 1) by decide +kernel) rfl rfl, ⟨sm_dup (show decode _ _ = .ok (.dup, 1) by decide +kernel) rfl, ⟨sm_getIN (C := RX5) (T := TX5) (show decode _ _ = .ok (.getfield 25, 3) by decide +kernel) wd_134 inX5 rfl (by decide) rfl rfl (by decide) rfl, ⟨sm_iconst (show decode _ _ = .ok (.iconst 1, 1) by decide +kernel) (by decide +kernel) rfl, ⟨sm_isub (show decode _ _ = .ok (.isub, 1) by decide +kernel) rfl, ⟨sm_putIN (C := RX5) (T := TX5) (show decode _ _ = .ok (.putfield 25, 3) by decide +kernel) wd_134 inX5 tyX5 tyX5_ok nmX5 rfl (by decide) rfl rfl (by decide) rfl (by decide +kernel) rfl, ⟨sm_goto (show decode _ _ = .ok (.goto 26, 3) by decide +kernel) (by decide), ⟨sm_aload_n (show decode _ _ = .ok (.aload_n 1, 1) by decide +kernel) rfl rfl, ⟨sm_getRN (C := RX5) (T := TX5) (show decode _ _ = .ok (.getfield 30, 3) by decide +kernel) wd_126 inX5 rfl (by decide) rfl rfl (by decide) rfl, trivial⟩⟩⟩⟩⟩⟩⟩⟩⟩
theorem tm_3_3 : ax_all1 (ax_Sim ax_ME false RX0 cX0_takeBack 2 (some FieldType.boolean)) 48 [none, some (a_aload 0 50), some (a_getR 0 3 0 53), none, none, some (a_aload 0 54), some (a_getI 0 3 2 57), none, none, some (a_iald 58), some (a_aload 0 59), some (a_getR 0 3 1 62), none, none, some (a_aload 0 63), some (a_getI 0 3 2 66)] := ⟨sm_aload_n (show decode _ _ = .ok (.aload_n 0, 1) by decide +kernel) rfl rfl, ⟨sm_getR (C := RX0) (T := TX0) (show decode _ _ = .ok (.getfield 9, 3) by decide +kernel) wd_101 inX0 rfl (by decide) rfl rfl (by decide) rfl, ⟨sm_aload_n (show decode _ _ = .ok (.aload_n 0, 1) by decide +kernel) rfl rfl, ⟨sm_getI (C := RX0) (T := TX0) (show decode _ _ = .ok (.getfield 18, 3) by decide +kernel) wd_103 inX0 rfl (by decide) rfl rfl (by decide) rfl, ⟨sm_iald (show decode _ _ = .ok (.iaload, 1) by decide +kernel) rfl, ⟨sm_aload_n (show decode _ _ = .ok (.aload_n 0, 1) by decide +kernel) rfl rfl, ⟨sm_getR (C := RX0) (T := TX0) (show decode _ _ = .ok (.getfield 15, 3) by decide +kernel) wd_102 inX0 rfl (by decide) rfl rfl (by decide) rfl, ⟨sm_aload_n (show decode _ _ = .ok (.aload_n 0, 1) by decide +kernel) rfl rfl, ⟨sm_getI (C := RX0) (T := TX0) (show decode _ _ = .ok (.getfield 18, 3) by decide +kernel) wd_103 inX0 rfl (by decide) rfl rfl (by decide) rfl, trivial⟩⟩⟩⟩⟩⟩⟩⟩⟩
theorem tm_3_4 : ax_all1 (ax_Sim ax_ME false RX0 cX0_takeBack 2 (some FieldType.boolean)) 64 [none, none, some (a_iald 67), some (a_iast 68), some (a_iconst 1 69), some (a_zret)] := ⟨sm_iald (show decode _ _ = .ok (.iaload, 1) by decide +kernel) rfl, ⟨sm_iast (show decode _ _ = .ok (.iastore, 1) by decide +kernel) rfl, ⟨sm_iconst (show decode _ _ = .ok (.iconst 1, 1) by decide +kernel) (by decide +kernel) rfl, ⟨sm_zret (show decode _ _ = .ok (.ireturn, 1) by decide +kernel) rfl, trivial⟩⟩⟩⟩
theorem tm_3 : ∀ (pc : Nat) (act : ax_Act), ax_row t_3 pc = some act → ax_Sim ax_ME false RX0 cX0_takeBack 2 (some FieldType.boolean) pc act := ax_row_all ⟨tm_3_0, ⟨tm_3_1, ⟨tm_3_2, ⟨tm_3_3, ⟨tm_3_4, trivial⟩⟩⟩⟩⟩
theorem tm_4_0 : ax_all1 (ax_Sim ax_ME true RX1 cX1_init 1 none) 0 [some (a_aload 0 1), some (a_oinit 4), none, none, some (a_aload 0 5), some (a_iconst 3 6), some (a_newa 100 3 8), none, some (a_putR 1 7 0 11), none, none, some (a_aload 0 12), some (a_iconst 7 14), none, some (a_newa 100 7 16), none] := ⟨sm_aload_n (show decode _ _ = .ok (.aload_n 0, 1) by decide +kernel) rfl rfl, ⟨sm_oinit (show decode _ _ = .ok (.invokespecial 3, 3) by decide +kernel) wd_177 wd_66 wd_67 rfl, ⟨sm_aload_n (show decode _ _ = .ok (.aload_n 0, 1) by decide +kernel) rfl rfl, ⟨sm_iconst (show decode _ _ = .ok (.iconst 3, 1) by decide +kernel) (by decide +kernel) rfl, ⟨sm_newai (show decode _ _ = .ok (.newarray .int, 2) by decide +kernel) wd_94 (by decide) rfl, ⟨sm_putRF (C := RX1) (T := TX1) (ty := .array .int) (show decode _ _ = .ok (.putfield 9, 3) by decide +kernel) wd_178 inX1 tyX1 tyX1_ok nmX1 rfl (by decide) rfl rfl (by decide) rfl rfl rfl (by decide +kernel) (Or.inr ⟨_, rfl⟩) rfl, ⟨sm_aload_n (show decode _ _ = .ok (.aload_n 0, 1) by decide +kernel) rfl rfl, ⟨sm_bipush (show decode _ _ = .ok (.bipush 7, 2) by decide +kernel) (by decide +kernel) rfl, ⟨sm_newai (show decode _ _ = .ok (.newarray .int, 2) by decide +kernel) wd_94 (by decide) rfl, trivial⟩⟩⟩⟩⟩⟩⟩⟩⟩
theorem tm_4_1 : ax_all1 (ax_Sim ax_ME true RX1 cX1_init 1 none) 16 [some (a_putR 1 7 1 19), none, none, some (a_aload 0 20), some (a_iconst 7 22), none, some (a_newa 100 7 24), none, some (a_putR 1 7 2 27), none, none, some (a_vret)] := ⟨sm_putRF (C := RX1) (T := TX1) (ty := .array .int) (show decode _ _ = .ok (.putfield 15, 3) by decide +kernel) wd_179 inX1 tyX1 tyX1_ok nmX1 rfl (by decide) rfl rfl (by decide) rfl rfl rfl (by decide +kernel) (Or.inr ⟨_, rfl⟩) rfl, ⟨sm_aload_n (show decode _ _ = .ok (.aload_n 0, 1) by decide +kernel) rfl rfl, ⟨sm_bipush (show decode _ _ = .ok (.bipush 7, 2) by decide +kernel) (by decide +kernel) rfl, ⟨sm_newai (show decode _ _ = .ok (.newarray .int, 2) by decide +kernel) wd_94 (by decide) rfl, ⟨sm_putRF (C := RX1) (T := TX1) (ty := .array .int) (show decode _ _ = .ok (.putfield 18, 3) by decide +kernel) wd_180 inX1 tyX1 tyX1_ok nmX1 rfl (by decide) rfl rfl (by decide) rfl rfl rfl (by decide +kernel) (Or.inr ⟨_, rfl⟩) rfl, ⟨sm_vret (show decode _ _ = .ok (.return_, 1) by decide +kernel) rfl, trivial⟩⟩⟩⟩⟩⟩
theorem tm_4 : ∀ (pc : Nat) (act : ax_Act), ax_row t_4 pc = some act → ax_Sim ax_ME true RX1 cX1_init 1 none pc act := ax_row_all ⟨tm_4_0, ⟨tm_4_1, trivial⟩⟩
theorem tm_5_0 : ax_all1 (ax_Sim ax_ME false RX1 cX1_seek 3 none) 0 [some (a_aload 0 1), some (a_iconst 1 2), some (a_putZ 1 7 3 5), none, none, some (a_aload 0 6), some (a_iconst 0 7), some (a_putZ 1 7 4 10), none, none, some (a_iconst 0 11), some (a_istore 2 12), some (a_iload 2 13), some (a_aload 1 14), some (a_getI 6 7 5 17), none] := ⟨sm_aload_n (show decode _ _ = .ok (.aload_n 0, 1) by decide +kernel) rfl rfl, ⟨sm_iconst (show decode _ _ = .ok (.iconst 1, 1) by decide +kernel) (by decide +kernel) rfl, ⟨sm_putZ (C := RX1) (T := TX1) (show decode _ _ = .ok (.putfield 21, 3) by decide +kernel) wd_182 inX1 tyX1 tyX1_ok nmX1 rfl (by decide) rfl rfl (by decide) rfl (by decide +kernel) rfl, ⟨sm_aload_n (show decode _ _ = .ok (.aload_n 0, 1) by decide +kernel) rfl rfl, ⟨sm_iconst (show decode _ _ = .ok (.iconst 0, 1) by decide +kernel) (by decide +kernel) rfl, ⟨sm_putZ (C := RX1) (T := TX1) (show decode _ _ = .ok (.putfield 25, 3) by decide +kernel) wd_184 inX1 tyX1 tyX1_ok nmX1 rfl (by decide) rfl rfl (by decide) rfl (by decide +kernel) rfl, ⟨sm_iconst (show decode _ _ = .ok (.iconst 0, 1) by decide +kernel) (by decide +kernel) rfl, ⟨sm_istore_n (show decode _ _ = .ok (.istore_n 2, 1) by decide +kernel) rfl (by decide) rfl, ⟨sm_iload_n (show decode _ _ = .ok (.iload_n 2, 1) by decide +kernel) rfl rfl, ⟨sm_aload_n (show decode _ _ = .ok (.aload_n 1, 1) by decide +kernel) rfl rfl, ⟨sm_getIN (C := RX6) (T := TX6) (show decode _ _ = .ok (.getfield 28, 3) by decide +kernel) wd_304 inX6 rfl (by decide) rfl rfl (by decide) rfl, trivial⟩⟩⟩⟩⟩⟩⟩⟩⟩⟩⟩
theorem tm_5_1 : ax_all1 (ax_Sim ax_ME false RX1 cX1_seek 3 none) 16 [none, some (a_cge 38 20), none, none, some (a_aload 0 21), some (a_getR 1 7 0 24), none, none, some (a_iload 2 25), some (a_aload 1 26), some (a_getR 6 7 1 29), none, none, some (a_iload 2 30), some (a_iald 31), some (a_iast 32)] := ⟨sm_cge (show decode _ _ = .ok (.if_icmp .ge 21, 3) by decide +kernel) (by decide) rfl, ⟨sm_aload_n (show decode _ _ = .ok (.aload_n 0, 1) by decide +kernel) rfl rfl, ⟨sm_getR (C := RX1) (T := TX1) (show decode _ _ = .ok (.getfield 9, 3) by decide +kernel) wd_178 inX1 rfl (by decide) rfl rfl (by decide) rfl, ⟨sm_iload_n (show decode _ _ = .ok (.iload_n 2, 1) by decide +kernel) rfl rfl, ⟨sm_aload_n (show decode _ _ = .ok (.aload_n 1, 1) by decide +kernel) rfl rfl, ⟨sm_getRN (C := RX6) (T := TX6) (show decode _ _ = .ok (.getfield 34, 3) by decide +kernel) wd_295 inX6 rfl (by decide) rfl rfl (by decide) rfl, ⟨sm_iload_n (show decode _ _ = .ok (.iload_n 2, 1) by decide +kernel) rfl rfl, ⟨sm_iald (show decode _ _ = .ok (.iaload, 1) by decide +kernel) rfl, ⟨sm_iast (show decode _ _ = .ok (.iastore, 1) by decide +kernel) rfl, trivial⟩⟩⟩⟩⟩⟩⟩⟩⟩
theorem tm_5_2 : ax_all1 (ax_Sim ax_ME false RX1 cX1_seek 3 none) 32 [some (a_iinc 2 1 35), none, none, some (a_goto 12), none, none, some (a_iconst 0 39), some (a_istore 2 40), some (a_iload 2 41), some (a_aload 1 42), some (a_getI 6 7 4 45), none, none, some (a_cge 62 48), none, none] := ⟨sm_iinc (show decode _ _ = .ok (.iinc 2 1, 3) by decide +kernel) (by decide +kernel) (by decide) rfl, ⟨sm_goto (show decode _ _ = .ok (.goto (-23), 3) by decide +kernel) (by decide), ⟨sm_iconst (show decode _ _ = .ok (.iconst 0, 1) by decide +kernel) (by decide +kernel) rfl, ⟨sm_istore_n (show decode _ _ = .ok (.istore_n 2, 1) by decide +kernel) rfl (by decide) rfl, ⟨sm_iload_n (show decode _ _ = .ok (.iload_n 2, 1) by decide +kernel) rfl rfl, ⟨sm_aload_n (show decode _ _ = .ok (.aload_n 1, 1) by decide +kernel) rfl rfl, ⟨sm_getIN (C := RX6) (T := TX6) (show decode _ _ = .ok (.getfield 37, 3) by decide +kernel) wd_301 inX6 rfl (by decide) rfl rfl (by decide) rfl, ⟨sm_cge (show decode _ _ = .ok (.if_icmp .ge 17, 3) by decide +kernel) (by decide) rfl, trivial⟩⟩⟩⟩⟩⟩⟩⟩
theorem tm_5_3 : ax_all1 (ax_Sim ax_ME false RX1 cX1_seek 3 none) 48 [some (a_aload 0 49), some (a_getR 1 7 1 52), none, none, some (a_iload 2 53), some (a_iconst (-4) 55), none, some (a_iast 56), some (a_iinc 2 1 59), none, none, some (a_goto 40), none, none, some (a_aload 0 63), some (a_aload 1 64)] := ⟨sm_aload_n (show decode _ _ = .ok (.aload_n 0, 1) by decide +kernel) rfl rfl, ⟨sm_getR (C := RX1) (T := TX1) (show decode _ _ = .ok (.getfield 15, 3) by decide +kernel) wd_179 inX1 rfl (by decide) rfl rfl (by decide) rfl, ⟨sm_iload_n (show decode _ _ = .ok (.iload_n 2, 1) by decide +kernel) rfl rfl, ⟨sm_bipush (show decode _ _ = .ok (.bipush (-4), 2) by decide +kernel) (by decide +kernel) rfl, ⟨sm_iast (show decode _ _ = .ok (.iastore, 1) by decide +kernel) rfl, ⟨sm_iinc (show decode _ _ = .ok (.iinc 2 1, 3) by decide +kernel) (by decide +kernel) (by decide) rfl, ⟨sm_goto (show decode _ _ = .ok (.goto (-19), 3) by decide +kernel) (by decide), ⟨sm_aload_n (show decode _ _ = .ok (.aload_n 0, 1) by decide +kernel) rfl rfl, ⟨sm_aload_n (show decode _ _ = .ok (.aload_n 1, 1) by decide +kernel) rfl rfl, trivial⟩⟩⟩⟩⟩⟩⟩⟩⟩
theorem tm_5_4 : ax_all1 (ax_Sim ax_ME false RX1 cX1_seek 3 none) 64 [some (a_iconst 0 65), some (a_iconst 0 66), some (a_iconst 0 67), some (a_callV 1 7 6 4 70), none, none, some (a_vret)] := ⟨sm_iconst (show decode _ _ = .ok (.iconst 0, 1) by decide +kernel) (by decide +kernel) rfl, ⟨sm_iconst (show decode _ _ = .ok (.iconst 0, 1) by decide +kernel) (by decide +kernel) rfl, ⟨sm_iconst (show decode _ _ = .ok (.iconst 0, 1) by decide +kernel) (by decide +kernel) rfl, ⟨sm_callV (C := RX1) (T := TX1) (show decode _ _ = .ok (.invokevirtual 40, 3) by decide +kernel) rfl rfl (by decide) wd_704 wd_706 wd_47 wd_707 wd_6 ⟨by decide +kernel, by decide +kernel, by decide +kernel⟩ rfl, ⟨sm_vret (show decode _ _ = .ok (.return_, 1) by decide +kernel) rfl, trivial⟩⟩⟩⟩⟩
theorem tm_5 : ∀ (pc : Nat) (act : ax_Act), ax_row t_5 pc = some act → ax_Sim ax_ME false RX1 cX1_seek 3 none pc act := ax_row_all ⟨tm_5_0, ⟨tm_5_1, ⟨tm_5_2, ⟨tm_5_3, ⟨tm_5_4, trivial⟩⟩⟩⟩⟩
theorem tm_6_0 : ax_all1 (ax_Sim ax_ME false RX1 cX1_seekFrom 8 none) 0 [some (a_aload 0 1), some (a_getI 1 7 4 4), none, none, some (a_zeq 33 7), none, none, some (a_iload 3 8), some (a_aload 0 9), some (a_getI 1 7 5 12), none, none, some (a_cgt 32 15), none, none, some (a_iload 3 16)] := ⟨sm_aload_n (show decode _ _ = .ok (.aload_n 0, 1) by decide +kernel) rfl rfl, ⟨sm_getI (C := RX1) (T := TX1) (show decode _ _ = .ok (.getfield 25, 3) by decide +kernel) wd_184 inX1 rfl (by decide) rfl rfl (by decide) rfl, ⟨sm_zeq (show decode _ _ = .ok (.ifCond .eq 29, 3) by decide +kernel) (by decide) rfl, ⟨sm_iload_n (show decode _ _ = .ok (.iload_n 3, 1) by decide +kernel) rfl rfl, ⟨sm_aload_n (show decode _ _ = .ok (.aload_n 0, 1) by decide +kernel) rfl rfl, ⟨sm_getI (C := RX1) (T := TX1) (show decode _ _ = .ok (.getfield 44, 3) by decide +kernel) wd_186 inX1 rfl (by decide) rfl rfl (by decide) rfl, ⟨sm_cgt (show decode _ _ = .ok (.if_icmp .gt 20, 3) by decide +kernel) (by decide) rfl, ⟨sm_iload_n (show decode _ _ = .ok (.iload_n 3, 1) by decide +kernel) rfl rfl, trivial⟩⟩⟩⟩⟩⟩⟩⟩
theorem tm_6_1 : ax_all1 (ax_Sim ax_ME false RX1 cX1_seekFrom 8 none) 16 [some (a_aload 0 17), some (a_getI 1 7 5 20), none, none, some (a_cne 33 23), none, none, some (a_iload 4 25), none, some (a_aload 0 26), some (a_getI 1 7 6 29), none, none, some (a_clt 33 32), none, none] := ⟨sm_aload_n (show decode _ _ = .ok (.aload_n 0, 1) by decide +kernel) rfl rfl, ⟨sm_getI (C := RX1) (T := TX1) (show decode _ _ = .ok (.getfield 44, 3) by decide +kernel) wd_186 inX1 rfl (by decide) rfl rfl (by decide) rfl, ⟨sm_cne (show decode _ _ = .ok (.if_icmp .ne 13, 3) by decide +kernel) (by decide) rfl, ⟨sm_iload (show decode _ _ = .ok (.iload 4, 2) by decide +kernel) rfl, ⟨sm_aload_n (show decode _ _ = .ok (.aload_n 0, 1) by decide +kernel) rfl rfl, ⟨sm_getI (C := RX1) (T := TX1) (show decode _ _ = .ok (.getfield 47, 3) by decide +kernel) wd_188 inX1 rfl (by decide) rfl rfl (by decide) rfl, ⟨sm_clt (show decode _ _ = .ok (.if_icmp .lt 4, 3) by decide +kernel) (by decide) rfl, trivial⟩⟩⟩⟩⟩⟩⟩
theorem tm_6_2 : ax_all1 (ax_Sim ax_ME false RX1 cX1_seekFrom 8 none) 32 [some (a_vret), some (a_aload 0 34), some (a_aload 1 35), some (a_callV 1 7 7 1 38), none, none, some (a_istore 5 40), none, some (a_iload 5 42), none, some (a_zne 54 45), none, none, some (a_aload 0 46), some (a_aload 1 47), some (a_iload 3 48)] := ⟨sm_vret (show decode _ _ = .ok (.return_, 1) by decide +kernel) rfl, ⟨sm_aload_n (show decode _ _ = .ok (.aload_n 0, 1) by decide +kernel) rfl rfl, ⟨sm_aload_n (show decode _ _ = .ok (.aload_n 1, 1) by decide +kernel) rfl rfl, ⟨sm_callV (C := RX1) (T := TX1) (show decode _ _ = .ok (.invokevirtual 50, 3) by decide +kernel) rfl rfl (by decide) wd_708 wd_710 wd_47 wd_711 wd_7 ⟨by decide +kernel, by decide +kernel, by decide +kernel⟩ rfl, ⟨sm_istore (show decode _ _ = .ok (.istore 5, 2) by decide +kernel) (by decide) rfl, ⟨sm_iload (show decode _ _ = .ok (.iload 5, 2) by decide +kernel) rfl, ⟨sm_zne (show decode _ _ = .ok (.ifCond .ne 12, 3) by decide +kernel) (by decide) rfl, ⟨sm_aload_n (show decode _ _ = .ok (.aload_n 0, 1) by decide +kernel) rfl rfl, ⟨sm_aload_n (show decode _ _ = .ok (.aload_n 1, 1) by decide +kernel) rfl rfl, ⟨sm_iload_n (show decode _ _ = .ok (.iload_n 3, 1) by decide +kernel) rfl rfl, trivial⟩⟩⟩⟩⟩⟩⟩⟩⟩⟩
theorem tm_6_3 : ax_all1 (ax_Sim ax_ME false RX1 cX1_seekFrom 8 none) 48 [some (a_iload 4 50), none, some (a_callV 1 7 8 3 53), none, none, some (a_vret), some (a_iload 2 55), some (a_aload 1 56), some (a_getI 6 7 4 59), none, none, some (a_cge 72 62), none, none, some (a_aload 1 63), some (a_iload 2 64)] := ⟨sm_iload (show decode _ _ = .ok (.iload 4, 2) by decide +kernel) rfl, ⟨sm_callV (C := RX1) (T := TX1) (show decode _ _ = .ok (.invokevirtual 54, 3) by decide +kernel) rfl rfl (by decide) wd_713 wd_715 wd_47 wd_716 wd_8 ⟨by decide +kernel, by decide +kernel, by decide +kernel⟩ rfl, ⟨sm_vret (show decode _ _ = .ok (.return_, 1) by decide +kernel) rfl, ⟨sm_iload_n (show decode _ _ = .ok (.iload_n 2, 1) by decide +kernel) rfl rfl, ⟨sm_aload_n (show decode _ _ = .ok (.aload_n 1, 1) by decide +kernel) rfl rfl, ⟨sm_getIN (C := RX6) (T := TX6) (show decode _ _ = .ok (.getfield 37, 3) by decide +kernel) wd_301 inX6 rfl (by decide) rfl rfl (by decide) rfl, ⟨sm_cge (show decode _ _ = .ok (.if_icmp .ge 13, 3) by decide +kernel) (by decide) rfl, ⟨sm_aload_n (show decode _ _ = .ok (.aload_n 1, 1) by decide +kernel) rfl rfl, ⟨sm_iload_n (show decode _ _ = .ok (.iload_n 2, 1) by decide +kernel) rfl rfl, trivial⟩⟩⟩⟩⟩⟩⟩⟩⟩
theorem tm_6_4 : ax_all1 (ax_Sim ax_ME false RX1 cX1_seekFrom 8 none) 64 [some (a_callV 6 7 29 1 67), none, none, some (a_iload 5 69), none, some (a_cge 73 72), none, none, some (a_vret), some (a_aload 1 74), some (a_getR 6 7 0 77), none, none, some (a_iload 2 78), some (a_iald 79), some (a_istore 6 81)] := ⟨sm_callV (C := RX6) (T := TX6) (show decode _ _ = .ok (.invokevirtual 58, 3) by decide +kernel) rfl rfl (by decide) wd_717 wd_718 wd_51 wd_720 wd_719 ⟨by decide +kernel, by decide +kernel, by decide +kernel⟩ rfl, ⟨sm_iload (show decode _ _ = .ok (.iload 5, 2) by decide +kernel) rfl, ⟨sm_cge (show decode _ _ = .ok (.if_icmp .ge 4, 3) by decide +kernel) (by decide) rfl, ⟨sm_vret (show decode _ _ = .ok (.return_, 1) by decide +kernel) rfl, ⟨sm_aload_n (show decode _ _ = .ok (.aload_n 1, 1) by decide +kernel) rfl rfl, ⟨sm_getRN (C := RX6) (T := TX6) (show decode _ _ = .ok (.getfield 62, 3) by decide +kernel) wd_293 inX6 rfl (by decide) rfl rfl (by decide) rfl, ⟨sm_iload_n (show decode _ _ = .ok (.iload_n 2, 1) by decide +kernel) rfl rfl, ⟨sm_iald (show decode _ _ = .ok (.iaload, 1) by decide +kernel) rfl, ⟨sm_istore (show decode _ _ = .ok (.istore 6, 2) by decide +kernel) (by decide) rfl, trivial⟩⟩⟩⟩⟩⟩⟩⟩⟩
theorem tm_6_5 : ax_all1 (ax_Sim ax_ME false RX1 cX1_seekFrom 8 none) 80 [none, some (a_iconst 0 82), some (a_istore 7 84), none, some (a_iload 7 86), none, some (a_aload 1 87), some (a_getI 6 7 5 90), none, none, some (a_cge 165 93), none, none, some (a_aload 0 94), some (a_getR 1 7 0 97), none] := ⟨sm_iconst (show decode _ _ = .ok (.iconst 0, 1) by decide +kernel) (by decide +kernel) rfl, ⟨sm_istore (show decode _ _ = .ok (.istore 7, 2) by decide +kernel) (by decide) rfl, ⟨sm_iload (show decode _ _ = .ok (.iload 7, 2) by decide +kernel) rfl, ⟨sm_aload_n (show decode _ _ = .ok (.aload_n 1, 1) by decide +kernel) rfl rfl, ⟨sm_getIN (C := RX6) (T := TX6) (show decode _ _ = .ok (.getfield 28, 3) by decide +kernel) wd_304 inX6 rfl (by decide) rfl rfl (by decide) rfl, ⟨sm_cge (show decode _ _ = .ok (.if_icmp .ge 75, 3) by decide +kernel) (by decide) rfl, ⟨sm_aload_n (show decode _ _ = .ok (.aload_n 0, 1) by decide +kernel) rfl rfl, ⟨sm_getR (C := RX1) (T := TX1) (show decode _ _ = .ok (.getfield 9, 3) by decide +kernel) wd_178 inX1 rfl (by decide) rfl rfl (by decide) rfl, trivial⟩⟩⟩⟩⟩⟩⟩⟩
theorem tm_6_6 : ax_all1 (ax_Sim ax_ME false RX1 cX1_seekFrom 8 none) 96 [none, some (a_iload 7 99), none, some (a_iald 100), some (a_zle 159 103), none, none, some (a_aload 0 104), some (a_getR 1 7 0 107), none, none, some (a_iload 7 109), none, some (a_dup2 110), some (a_iald 111), some (a_iload 6 113)] := ⟨sm_iload (show decode _ _ = .ok (.iload 7, 2) by decide +kernel) rfl, ⟨sm_iald (show decode _ _ = .ok (.iaload, 1) by decide +kernel) rfl, ⟨sm_zle (show decode _ _ = .ok (.ifCond .le 59, 3) by decide +kernel) (by decide) rfl, ⟨sm_aload_n (show decode _ _ = .ok (.aload_n 0, 1) by decide +kernel) rfl rfl, ⟨sm_getR (C := RX1) (T := TX1) (show decode _ _ = .ok (.getfield 9, 3) by decide +kernel) wd_178 inX1 rfl (by decide) rfl rfl (by decide) rfl, ⟨sm_iload (show decode _ _ = .ok (.iload 7, 2) by decide +kernel) rfl, ⟨sm_dup2 (show decode _ _ = .ok (.dup2, 1) by decide +kernel) rfl, ⟨sm_iald (show decode _ _ = .ok (.iaload, 1) by decide +kernel) rfl, ⟨sm_iload (show decode _ _ = .ok (.iload 6, 2) by decide +kernel) rfl, trivial⟩⟩⟩⟩⟩⟩⟩⟩⟩
theorem tm_6_7 : ax_all1 (ax_Sim ax_ME false RX1 cX1_seekFrom 8 none) 112 [none, some (a_isub 114), some (a_iast 115), some (a_aload 0 116), some (a_getR 1 7 1 119), none, none, some (a_iload 2 120), some (a_iload 7 122), none, some (a_iast 123), some (a_aload 0 124), some (a_aload 1 125), some (a_iload 2 126), some (a_iconst 1 127), some (a_iadd 128)] := ⟨sm_isub (show decode _ _ = .ok (.isub, 1) by decide +kernel) rfl, ⟨sm_iast (show decode _ _ = .ok (.iastore, 1) by decide +kernel) rfl, ⟨sm_aload_n (show decode _ _ = .ok (.aload_n 0, 1) by decide +kernel) rfl rfl, ⟨sm_getR (C := RX1) (T := TX1) (show decode _ _ = .ok (.getfield 15, 3) by decide +kernel) wd_179 inX1 rfl (by decide) rfl rfl (by decide) rfl, ⟨sm_iload_n (show decode _ _ = .ok (.iload_n 2, 1) by decide +kernel) rfl rfl, ⟨sm_iload (show decode _ _ = .ok (.iload 7, 2) by decide +kernel) rfl, ⟨sm_iast (show decode _ _ = .ok (.iastore, 1) by decide +kernel) rfl, ⟨sm_aload_n (show decode _ _ = .ok (.aload_n 0, 1) by decide +kernel) rfl rfl, ⟨sm_aload_n (show decode _ _ = .ok (.aload_n 1, 1) by decide +kernel) rfl rfl, ⟨sm_iload_n (show decode _ _ = .ok (.iload_n 2, 1) by decide +kernel) rfl rfl, ⟨sm_iconst (show decode _ _ = .ok (.iconst 1, 1) by decide +kernel) (by decide +kernel) rfl, ⟨sm_iadd (show decode _ _ = .ok (.iadd, 1) by decide +kernel) rfl, trivial⟩⟩⟩⟩⟩⟩⟩⟩⟩⟩⟩⟩
theorem tm_6_8 : ax_all1 (ax_Sim ax_ME false RX1 cX1_seekFrom 8 none) 128 [some (a_iload 3 129), some (a_iconst 1 130), some (a_iadd 131), some (a_iload 4 133), none, some (a_iload 6 135), none, some (a_iadd 136), some (a_callV 1 7 6 4 139), none, none, some (a_aload 0 140), some (a_getR 1 7 1 143), none, none, some (a_iload 2 144)] := ⟨sm_iload_n (show decode _ _ = .ok (.iload_n 3, 1) by decide +kernel) rfl rfl, ⟨sm_iconst (show decode _ _ = .ok (.iconst 1, 1) by decide +kernel) (by decide +kernel) rfl, ⟨sm_iadd (show decode _ _ = .ok (.iadd, 1) by decide +kernel) rfl, ⟨sm_iload (show decode _ _ = .ok (.iload 4, 2) by decide +kernel) rfl, ⟨sm_iload (show decode _ _ = .ok (.iload 6, 2) by decide +kernel) rfl, ⟨sm_iadd (show decode _ _ = .ok (.iadd, 1) by decide +kernel) rfl, ⟨sm_callV (C := RX1) (T := TX1) (show decode _ _ = .ok (.invokevirtual 40, 3) by decide +kernel) rfl rfl (by decide) wd_704 wd_706 wd_47 wd_707 wd_6 ⟨by decide +kernel, by decide +kernel, by decide +kernel⟩ rfl, ⟨sm_aload_n (show decode _ _ = .ok (.aload_n 0, 1) by decide +kernel) rfl rfl, ⟨sm_getR (C := RX1) (T := TX1) (show decode _ _ = .ok (.getfield 15, 3) by decide +kernel) wd_179 inX1 rfl (by decide) rfl rfl (by decide) rfl, ⟨sm_iload_n (show decode _ _ = .ok (.iload_n 2, 1) by decide +kernel) rfl rfl, trivial⟩⟩⟩⟩⟩⟩⟩⟩⟩⟩
theorem tm_6_9 : ax_all1 (ax_Sim ax_ME false RX1 cX1_seekFrom 8 none) 144 [some (a_iconst (-4) 146), none, some (a_iast 147), some (a_aload 0 148), some (a_getR 1 7 0 151), none, none, some (a_iload 7 153), none, some (a_dup2 154), some (a_iald 155), some (a_iload 6 157), none, some (a_iadd 158), some (a_iast 159), some (a_iinc 7 1 162)] := ⟨sm_bipush (show decode _ _ = .ok (.bipush (-4), 2) by decide +kernel) (by decide +kernel) rfl, ⟨sm_iast (show decode _ _ = .ok (.iastore, 1) by decide +kernel) rfl, ⟨sm_aload_n (show decode _ _ = .ok (.aload_n 0, 1) by decide +kernel) rfl rfl, ⟨sm_getR (C := RX1) (T := TX1) (show decode _ _ = .ok (.getfield 9, 3) by decide +kernel) wd_178 inX1 rfl (by decide) rfl rfl (by decide) rfl, ⟨sm_iload (show decode _ _ = .ok (.iload 7, 2) by decide +kernel) rfl, ⟨sm_dup2 (show decode _ _ = .ok (.dup2, 1) by decide +kernel) rfl, ⟨sm_iald (show decode _ _ = .ok (.iaload, 1) by decide +kernel) rfl, ⟨sm_iload (show decode _ _ = .ok (.iload 6, 2) by decide +kernel) rfl, ⟨sm_iadd (show decode _ _ = .ok (.iadd, 1) by decide +kernel) rfl, ⟨sm_iast (show decode _ _ = .ok (.iastore, 1) by decide +kernel) rfl, ⟨sm_iinc (show decode _ _ = .ok (.iinc 7 1, 3) by decide +kernel) (by decide +kernel) (by decide) rfl, trivial⟩⟩⟩⟩⟩⟩⟩⟩⟩⟩⟩
theorem tm_6_10 : ax_all1 (ax_Sim ax_ME false RX1 cX1_seekFrom 8 none) 160 [none, none, some (a_goto 84), none, none, some (a_aload 0 166), some (a_aload 1 167), some (a_iload 2 168), some (a_iconst 1 169), some (a_iadd 170), some (a_iload 3 171), some (a_iload 4 173), none, some (a_callV 1 7 6 4 176), none, none] := ⟨sm_goto (show decode _ _ = .ok (.goto (-78), 3) by decide +kernel) (by decide), ⟨sm_aload_n (show decode _ _ = .ok (.aload_n 0, 1) by decide +kernel) rfl rfl, ⟨sm_aload_n (show decode _ _ = .ok (.aload_n 1, 1) by decide +kernel) rfl rfl, ⟨sm_iload_n (show decode _ _ = .ok (.iload_n 2, 1) by decide +kernel) rfl rfl, ⟨sm_iconst (show decode _ _ = .ok (.iconst 1, 1) by decide +kernel) (by decide +kernel) rfl, ⟨sm_iadd (show decode _ _ = .ok (.iadd, 1) by decide +kernel) rfl, ⟨sm_iload_n (show decode _ _ = .ok (.iload_n 3, 1) by decide +kernel) rfl rfl, ⟨sm_iload (show decode _ _ = .ok (.iload 4, 2) by decide +kernel) rfl, ⟨sm_callV (C := RX1) (T := TX1) (show decode _ _ = .ok (.invokevirtual 40, 3) by decide +kernel) rfl rfl (by decide) wd_704 wd_706 wd_47 wd_707 wd_6 ⟨by decide +kernel, by decide +kernel, by decide +kernel⟩ rfl, trivial⟩⟩⟩⟩⟩⟩⟩⟩⟩
theorem tm_6_11 : ax_all1 (ax_Sim ax_ME false RX1 cX1_seekFrom 8 none) 176 [some (a_vret)] := ⟨sm_vret (show decode _ _ = .ok (.return_, 1) by decide +kernel) rfl, trivial⟩
theorem tm_6 : ∀ (pc : Nat) (act : ax_Act), ax_row t_6 pc = some act → ax_Sim ax_ME false RX1 cX1_seekFrom 8 none pc act := ax_row_all ⟨tm_6_0, ⟨tm_6_1, ⟨tm_6_2, ⟨tm_6_3, ⟨tm_6_4, ⟨tm_6_5, ⟨tm_6_6, ⟨tm_6_7, ⟨tm_6_8, ⟨tm_6_9, ⟨tm_6_10, ⟨tm_6_11, trivial⟩⟩⟩⟩⟩⟩⟩⟩⟩⟩⟩⟩
theorem tm_7_0 : ax_all1 (ax_Sim ax_ME false RX1 cX1_lackingLength 4 (some FieldType.int)) 0 [some (a_iconst 0 1), some (a_istore 2 2), some (a_iconst 0 3), some (a_istore 3 4), some (a_iload 3 5), some (a_aload 1 6), some (a_getI 6 7 5 9), none, none, some (a_cge 31 12), none, none, some (a_iload 2 13), some (a_iconst 0 14), some (a_aload 0 15), some (a_getR 1 7 0 18)] := ⟨sm_iconst (show decode _ _ = .ok (.iconst 0, 1) by decide +kernel) (by decide +kernel) rfl, ⟨sm_istore_n (show decode _ _ = .ok (.istore_n 2, 1) by decide +kernel) rfl (by decide) rfl, ⟨sm_iconst (show decode _ _ = .ok (.iconst 0, 1) by decide +kernel) (by decide +kernel) rfl, ⟨sm_istore_n (show decode _ _ = .ok (.istore_n 3, 1) by decide +kernel) rfl (by decide) rfl, ⟨sm_iload_n (show decode _ _ = .ok (.iload_n 3, 1) by decide +kernel) rfl rfl, ⟨sm_aload_n (show decode _ _ = .ok (.aload_n 1, 1) by decide +kernel) rfl rfl, ⟨sm_getIN (C := RX6) (T := TX6) (show decode _ _ = .ok (.getfield 28, 3) by decide +kernel) wd_304 inX6 rfl (by decide) rfl rfl (by decide) rfl, ⟨sm_cge (show decode _ _ = .ok (.if_icmp .ge 22, 3) by decide +kernel) (by decide) rfl, ⟨sm_iload_n (show decode _ _ = .ok (.iload_n 2, 1) by decide +kernel) rfl rfl, ⟨sm_iconst (show decode _ _ = .ok (.iconst 0, 1) by decide +kernel) (by decide +kernel) rfl, ⟨sm_aload_n (show decode _ _ = .ok (.aload_n 0, 1) by decide +kernel) rfl rfl, ⟨sm_getR (C := RX1) (T := TX1) (show decode _ _ = .ok (.getfield 9, 3) by decide +kernel) wd_178 inX1 rfl (by decide) rfl rfl (by decide) rfl, trivial⟩⟩⟩⟩⟩⟩⟩⟩⟩⟩⟩⟩
theorem tm_7_1 : ax_all1 (ax_Sim ax_ME false RX1 cX1_lackingLength 4 (some FieldType.int)) 16 [none, none, some (a_iload 3 19), some (a_iald 20), some (a_callS 175 2 23), none, none, some (a_iadd 24), some (a_istore 2 25), some (a_iinc 3 1 28), none, none, some (a_goto 4), none, none, some (a_iload 2 32)] := ⟨sm_iload_n (show decode _ _ = .ok (.iload_n 3, 1) by decide +kernel) rfl rfl, ⟨sm_iald (show decode _ _ = .ok (.iaload, 1) by decide +kernel) rfl, ⟨sm_callS (show decode _ _ = .ok (.invokestatic 65, 3) by decide +kernel) rfl wd_712 wd_550 wd_57 wd_551 ⟨by decide +kernel, by decide +kernel, by decide +kernel⟩ rfl, ⟨sm_iadd (show decode _ _ = .ok (.iadd, 1) by decide +kernel) rfl, ⟨sm_istore_n (show decode _ _ = .ok (.istore_n 2, 1) by decide +kernel) rfl (by decide) rfl, ⟨sm_iinc (show decode _ _ = .ok (.iinc 3 1, 3) by decide +kernel) (by decide +kernel) (by decide) rfl, ⟨sm_goto (show decode _ _ = .ok (.goto (-24), 3) by decide +kernel) (by decide), ⟨sm_iload_n (show decode _ _ = .ok (.iload_n 2, 1) by decide +kernel) rfl rfl, trivial⟩⟩⟩⟩⟩⟩⟩⟩
theorem tm_7_2 : ax_all1 (ax_Sim ax_ME false RX1 cX1_lackingLength 4 (some FieldType.int)) 32 [some (a_iret)] := ⟨sm_iret (show decode _ _ = .ok (.ireturn, 1) by decide +kernel) rfl, trivial⟩
theorem tm_7 : ∀ (pc : Nat) (act : ax_Act), ax_row t_7 pc = some act → ax_Sim ax_ME false RX1 cX1_lackingLength 4 (some FieldType.int) pc act := ax_row_all ⟨tm_7_0, ⟨tm_7_1, ⟨tm_7_2, trivial⟩⟩⟩
theorem tm_8_0 : ax_all1 (ax_Sim ax_ME false RX1 cX1_take 5 none) 0 [some (a_aload 0 1), some (a_iconst 1 2), some (a_putZ 1 7 4 5), none, none, some (a_aload 0 6), some (a_iload 2 7), some (a_putI 1 7 5 10), none, none, some (a_aload 0 11), some (a_iload 3 12), some (a_putI 1 7 6 15), none, none, some (a_iconst 0 16)] := ⟨sm_aload_n (show decode _ _ = .ok (.aload_n 0, 1) by decide +kernel) rfl rfl, ⟨sm_iconst (show decode _ _ = .ok (.iconst 1, 1) by decide +kernel) (by decide +kernel) rfl, ⟨sm_putZ (C := RX1) (T := TX1) (show decode _ _ = .ok (.putfield 25, 3) by decide +kernel) wd_184 inX1 tyX1 tyX1_ok nmX1 rfl (by decide) rfl rfl (by decide) rfl (by decide +kernel) rfl, ⟨sm_aload_n (show decode _ _ = .ok (.aload_n 0, 1) by decide +kernel) rfl rfl, ⟨sm_iload_n (show decode _ _ = .ok (.iload_n 2, 1) by decide +kernel) rfl rfl, ⟨sm_putI (C := RX1) (T := TX1) (show decode _ _ = .ok (.putfield 44, 3) by decide +kernel) wd_186 inX1 tyX1 tyX1_ok nmX1 rfl (by decide) rfl rfl (by decide) rfl (by decide +kernel) rfl, ⟨sm_aload_n (show decode _ _ = .ok (.aload_n 0, 1) by decide +kernel) rfl rfl, ⟨sm_iload_n (show decode _ _ = .ok (.iload_n 3, 1) by decide +kernel) rfl rfl, ⟨sm_putI (C := RX1) (T := TX1) (show decode _ _ = .ok (.putfield 47, 3) by decide +kernel) wd_188 inX1 tyX1 tyX1_ok nmX1 rfl (by decide) rfl rfl (by decide) rfl (by decide +kernel) rfl, ⟨sm_iconst (show decode _ _ = .ok (.iconst 0, 1) by decide +kernel) (by decide +kernel) rfl, trivial⟩⟩⟩⟩⟩⟩⟩⟩⟩⟩
theorem tm_8_1 : ax_all1 (ax_Sim ax_ME false RX1 cX1_take 5 none) 16 [some (a_istore 4 18), none, some (a_iload 4 20), none, some (a_aload 1 21), some (a_getI 6 7 4 24), none, none, some (a_cge 47 27), none, none, some (a_aload 0 28), some (a_getR 1 7 2 31), none, none, some (a_iload 4 33)] := ⟨sm_istore (show decode _ _ = .ok (.istore 4, 2) by decide +kernel) (by decide) rfl, ⟨sm_iload (show decode _ _ = .ok (.iload 4, 2) by decide +kernel) rfl, ⟨sm_aload_n (show decode _ _ = .ok (.aload_n 1, 1) by decide +kernel) rfl rfl, ⟨sm_getIN (C := RX6) (T := TX6) (show decode _ _ = .ok (.getfield 37, 3) by decide +kernel) wd_301 inX6 rfl (by decide) rfl rfl (by decide) rfl, ⟨sm_cge (show decode _ _ = .ok (.if_icmp .ge 23, 3) by decide +kernel) (by decide) rfl, ⟨sm_aload_n (show decode _ _ = .ok (.aload_n 0, 1) by decide +kernel) rfl rfl, ⟨sm_getR (C := RX1) (T := TX1) (show decode _ _ = .ok (.getfield 18, 3) by decide +kernel) wd_180 inX1 rfl (by decide) rfl rfl (by decide) rfl, ⟨sm_iload (show decode _ _ = .ok (.iload 4, 2) by decide +kernel) rfl, trivial⟩⟩⟩⟩⟩⟩⟩⟩
theorem tm_8_2 : ax_all1 (ax_Sim ax_ME false RX1 cX1_take 5 none) 32 [none, some (a_aload 0 34), some (a_getR 1 7 1 37), none, none, some (a_iload 4 39), none, some (a_iald 40), some (a_iast 41), some (a_iinc 4 1 44), none, none, some (a_goto 18), none, none, some (a_vret)] := ⟨sm_aload_n (show decode _ _ = .ok (.aload_n 0, 1) by decide +kernel) rfl rfl, ⟨sm_getR (C := RX1) (T := TX1) (show decode _ _ = .ok (.getfield 15, 3) by decide +kernel) wd_179 inX1 rfl (by decide) rfl rfl (by decide) rfl, ⟨sm_iload (show decode _ _ = .ok (.iload 4, 2) by decide +kernel) rfl, ⟨sm_iald (show decode _ _ = .ok (.iaload, 1) by decide +kernel) rfl, ⟨sm_iast (show decode _ _ = .ok (.iastore, 1) by decide +kernel) rfl, ⟨sm_iinc (show decode _ _ = .ok (.iinc 4 1, 3) by decide +kernel) (by decide +kernel) (by decide) rfl, ⟨sm_goto (show decode _ _ = .ok (.goto (-26), 3) by decide +kernel) (by decide), ⟨sm_vret (show decode _ _ = .ok (.return_, 1) by decide +kernel) rfl, trivial⟩⟩⟩⟩⟩⟩⟩⟩
theorem tm_8 : ∀ (pc : Nat) (act : ax_Act), ax_row t_8 pc = some act → ax_Sim ax_ME false RX1 cX1_take 5 none pc act := ax_row_all ⟨tm_8_0, ⟨tm_8_1, ⟨tm_8_2, trivial⟩⟩⟩
theorem tm_9_0 : ax_all1 (ax_Sim ax_ME true RX2 cX2_init 2 none) 0 [some (a_aload 0 1), some (a_oinit 4), none, none, some (a_aload 0 5), some (a_iconst 2 6), some (a_newa 102 2 9), none, none, some (a_putR 2 2 0 12), none, none, some (a_iconst 0 13), some (a_istore 1 14), some (a_iload 1 15), some (a_iconst 2 16)] := ⟨sm_aload_n (show decode _ _ = .ok (.aload_n 0, 1) by decide +kernel) rfl rfl, ⟨sm_oinit (show decode _ _ = .ok (.invokespecial 3, 3) by decide +kernel) wd_117 wd_66 wd_67 rfl, ⟨sm_aload_n (show decode _ _ = .ok (.aload_n 0, 1) by decide +kernel) rfl rfl, ⟨sm_iconst (show decode _ _ = .ok (.iconst 2, 1) by decide +kernel) (by decide +kernel) rfl, ⟨sm_newq (show decode _ _ = .ok (.anewarray 9, 3) by decide +kernel) wd_118 wd_119 (by decide) rfl, ⟨sm_putRF (C := RX2) (T := TX2) (ty := .array (.object "ShadowTailor$State")) (show decode _ _ = .ok (.putfield 11, 3) by decide +kernel) wd_147 inX2 tyX2 tyX2_ok nmX2 rfl (by decide) rfl rfl (by decide) rfl rfl rfl (by decide +kernel) (Or.inr ⟨_, rfl⟩) rfl, ⟨sm_iconst (show decode _ _ = .ok (.iconst 0, 1) by decide +kernel) (by decide +kernel) rfl, ⟨sm_istore_n (show decode _ _ = .ok (.istore_n 1, 1) by decide +kernel) rfl (by decide) rfl, ⟨sm_iload_n (show decode _ _ = .ok (.iload_n 1, 1) by decide +kernel) rfl rfl, ⟨sm_iconst (show decode _ _ = .ok (.iconst 2, 1) by decide +kernel) (by decide +kernel) rfl, trivial⟩⟩⟩⟩⟩⟩⟩⟩⟩⟩
theorem tm_9_1 : ax_all1 (ax_Sim ax_ME true RX2 cX2_init 2 none) 16 [some (a_cge 38 19), none, none, some (a_aload 0 20), some (a_getR 2 2 0 23), none, none, some (a_iload 1 24), some (a_new 5 5 27), none, none, some (a_dup 28), some (a_callV 5 5 19 0 31), none, none, some (a_aast 32)] := ⟨sm_cge (show decode _ _ = .ok (.if_icmp .ge 22, 3) by decide +kernel) (by decide) rfl, ⟨sm_aload_n (show decode _ _ = .ok (.aload_n 0, 1) by decide +kernel) rfl rfl, ⟨sm_getR (C := RX2) (T := TX2) (show decode _ _ = .ok (.getfield 11, 3) by decide +kernel) wd_147 inX2 rfl (by decide) rfl rfl (by decide) rfl, ⟨sm_iload_n (show decode _ _ = .ok (.iload_n 1, 1) by decide +kernel) rfl rfl, ⟨sm_new (C := RX5) (T := TX5) (show decode _ _ = .ok (.new 9, 3) by decide +kernel) wd_118 wd_120 wd_45 inX5 tyX5 tyX5_ok rfl (by decide) (by decide +kernel) rfl, ⟨sm_dup (show decode _ _ = .ok (.dup, 1) by decide +kernel) rfl, ⟨sm_callIN (show decode _ _ = .ok (.invokespecial 17, 3) by decide +kernel) rfl wd_121 wd_122 wd_45 wd_123 rfl rfl ⟨by decide +kernel, by decide +kernel, by decide +kernel⟩ rfl, ⟨sm_aast (show decode _ _ = .ok (.aastore, 1) by decide +kernel) rfl, trivial⟩⟩⟩⟩⟩⟩⟩⟩
theorem tm_9_2 : ax_all1 (ax_Sim ax_ME true RX2 cX2_init 2 none) 32 [some (a_iinc 1 1 35), none, none, some (a_goto 14), none, none, some (a_vret)] := ⟨sm_iinc (show decode _ _ = .ok (.iinc 1 1, 3) by decide +kernel) (by decide +kernel) (by decide) rfl, ⟨sm_goto (show decode _ _ = .ok (.goto (-21), 3) by decide +kernel) (by decide), ⟨sm_vret (show decode _ _ = .ok (.return_, 1) by decide +kernel) rfl, trivial⟩⟩⟩
theorem tm_9 : ∀ (pc : Nat) (act : ax_Act), ax_row t_9 pc = some act → ax_Sim ax_ME true RX2 cX2_init 2 none pc act := ax_row_all ⟨tm_9_0, ⟨tm_9_1, ⟨tm_9_2, trivial⟩⟩⟩
theorem tm_10_0 : ax_all1 (ax_Sim ax_ME false RX2 cX2_add 2 (some FieldType.boolean)) 0 [some (a_aload 0 1), some (a_getI 2 2 1 4), none, none, some (a_iconst 2 5), some (a_clt 10 8), none, none, some (a_iconst 0 9), some (a_zret), some (a_aload 0 11), some (a_getR 2 2 0 14), none, none, some (a_aload 0 15), some (a_getI 2 2 1 18)] := ⟨sm_aload_n (show decode _ _ = .ok (.aload_n 0, 1) by decide +kernel) rfl rfl, ⟨sm_getI (C := RX2) (T := TX2) (show decode _ _ = .ok (.getfield 18, 3) by decide +kernel) wd_148 inX2 rfl (by decide) rfl rfl (by decide) rfl, ⟨sm_iconst (show decode _ _ = .ok (.iconst 2, 1) by decide +kernel) (by decide +kernel) rfl, ⟨sm_clt (show decode _ _ = .ok (.if_icmp .lt 5, 3) by decide +kernel) (by decide) rfl, ⟨sm_iconst (show decode _ _ = .ok (.iconst 0, 1) by decide +kernel) (by decide +kernel) rfl, ⟨sm_zret (show decode _ _ = .ok (.ireturn, 1) by decide +kernel) rfl, ⟨sm_aload_n (show decode _ _ = .ok (.aload_n 0, 1) by decide +kernel) rfl rfl, ⟨sm_getR (C := RX2) (T := TX2) (show decode _ _ = .ok (.getfield 11, 3) by decide +kernel) wd_147 inX2 rfl (by decide) rfl rfl (by decide) rfl, ⟨sm_aload_n (show decode _ _ = .ok (.aload_n 0, 1) by decide +kernel) rfl rfl, ⟨sm_getI (C := RX2) (T := TX2) (show decode _ _ = .ok (.getfield 18, 3) by decide +kernel) wd_148 inX2 rfl (by decide) rfl rfl (by decide) rfl, trivial⟩⟩⟩⟩⟩⟩⟩⟩⟩⟩
theorem tm_10_1 : ax_all1 (ax_Sim ax_ME false RX2 cX2_add 2 (some FieldType.boolean)) 16 [none, none, some (a_aald 19), some (a_aload 1 20), some (a_callV 5 5 22 1 23), none, none, some (a_aload 0 24), some (a_dup 25), some (a_getI 2 2 1 28), none, none, some (a_iconst 1 29), some (a_iadd 30), some (a_putI 2 2 1 33), none] := ⟨sm_aald (show decode _ _ = .ok (.aaload, 1) by decide +kernel) rfl, ⟨sm_aload_n (show decode _ _ = .ok (.aload_n 1, 1) by decide +kernel) rfl rfl, ⟨sm_callV (C := RX5) (T := TX5) (show decode _ _ = .ok (.invokevirtual 22, 3) by decide +kernel) rfl rfl (by decide) wd_792 wd_793 wd_45 wd_795 wd_794 ⟨by decide +kernel, by decide +kernel, by decide +kernel⟩ rfl, ⟨sm_aload_n (show decode _ _ = .ok (.aload_n 0, 1) by decide +kernel) rfl rfl, ⟨sm_dup (show decode _ _ = .ok (.dup, 1) by decide +kernel) rfl, ⟨sm_getI (C := RX2) (T := TX2) (show decode _ _ = .ok (.getfield 18, 3) by decide +kernel) wd_148 inX2 rfl (by decide) rfl rfl (by decide) rfl, ⟨sm_iconst (show decode _ _ = .ok (.iconst 1, 1) by decide +kernel) (by decide +kernel) rfl, ⟨sm_iadd (show decode _ _ = .ok (.iadd, 1) by decide +kernel) rfl, ⟨sm_putI (C := RX2) (T := TX2) (show decode _ _ = .ok (.putfield 18, 3) by decide +kernel) wd_148 inX2 tyX2 tyX2_ok nmX2 rfl (by decide) rfl rfl (by decide) rfl (by decide +kernel) rfl, trivial⟩⟩⟩⟩⟩⟩⟩⟩⟩
theorem tm_10_2 : ax_all1 (ax_Sim ax_ME false RX2 cX2_add 2 (some FieldType.boolean)) 32 [none, some (a_iconst 1 34), some (a_zret)] := ⟨sm_iconst (show decode _ _ = .ok (.iconst 1, 1) by decide +kernel) (by decide +kernel) rfl, ⟨sm_zret (show decode _ _ = .ok (.ireturn, 1) by decide +kernel) rfl, trivial⟩⟩
theorem tm_10 : ∀ (pc : Nat) (act : ax_Act), ax_row t_10 pc = some act → ax_Sim ax_ME false RX2 cX2_add 2 (some FieldType.boolean) pc act := ax_row_all ⟨tm_10_0, ⟨tm_10_1, ⟨tm_10_2, trivial⟩⟩⟩
theorem tm_11_0 : ax_all1 (ax_Sim ax_ME false RX2 cX2_restore 2 (some FieldType.boolean)) 0 [some (a_aload 0 1), some (a_getI 2 2 1 4), none, none, some (a_zne 9 7), none, none, some (a_iconst 0 8), some (a_zret), some (a_aload 0 10), some (a_dup 11), some (a_getI 2 2 1 14), none, none, some (a_iconst 1 15), some (a_isub 16)] := ⟨sm_aload_n (show decode _ _ = .ok (.aload_n 0, 1) by decide +kernel) rfl rfl, ⟨sm_getI (C := RX2) (T := TX2) (show decode _ _ = .ok (.getfield 18, 3) by decide +kernel) wd_148 inX2 rfl (by decide) rfl rfl (by decide) rfl, ⟨sm_zne (show decode _ _ = .ok (.ifCond .ne 5, 3) by decide +kernel) (by decide) rfl, ⟨sm_iconst (show decode _ _ = .ok (.iconst 0, 1) by decide +kernel) (by decide +kernel) rfl, ⟨sm_zret (show decode _ _ = .ok (.ireturn, 1) by decide +kernel) rfl, ⟨sm_aload_n (show decode _ _ = .ok (.aload_n 0, 1) by decide +kernel) rfl rfl, ⟨sm_dup (show decode _ _ = .ok (.dup, 1) by decide +kernel) rfl, ⟨sm_getI (C := RX2) (T := TX2) (show decode _ _ = .ok (.getfield 18, 3) by decide +kernel) wd_148 inX2 rfl (by decide) rfl rfl (by decide) rfl, ⟨sm_iconst (show decode _ _ = .ok (.iconst 1, 1) by decide +kernel) (by decide +kernel) rfl, ⟨sm_isub (show decode _ _ = .ok (.isub, 1) by decide +kernel) rfl, trivial⟩⟩⟩⟩⟩⟩⟩⟩⟩⟩
theorem tm_11_1 : ax_all1 (ax_Sim ax_ME false RX2 cX2_restore 2 (some FieldType.boolean)) 16 [some (a_putI 2 2 1 19), none, none, some (a_aload 1 20), some (a_aload 0 21), some (a_getR 2 2 0 24), none, none, some (a_aload 0 25), some (a_getI 2 2 1 28), none, none, some (a_aald 29), some (a_callV 5 5 22 1 32), none, none] := ⟨sm_putI (C := RX2) (T := TX2) (show decode _ _ = .ok (.putfield 18, 3) by decide +kernel) wd_148 inX2 tyX2 tyX2_ok nmX2 rfl (by decide) rfl rfl (by decide) rfl (by decide +kernel) rfl, ⟨sm_aload_n (show decode _ _ = .ok (.aload_n 1, 1) by decide +kernel) rfl rfl, ⟨sm_aload_n (show decode _ _ = .ok (.aload_n 0, 1) by decide +kernel) rfl rfl, ⟨sm_getR (C := RX2) (T := TX2) (show decode _ _ = .ok (.getfield 11, 3) by decide +kernel) wd_147 inX2 rfl (by decide) rfl rfl (by decide) rfl, ⟨sm_aload_n (show decode _ _ = .ok (.aload_n 0, 1) by decide +kernel) rfl rfl, ⟨sm_getI (C := RX2) (T := TX2) (show decode _ _ = .ok (.getfield 18, 3) by decide +kernel) wd_148 inX2 rfl (by decide) rfl rfl (by decide) rfl, ⟨sm_aald (show decode _ _ = .ok (.aaload, 1) by decide +kernel) rfl, ⟨sm_callV (C := RX5) (T := TX5) (show decode _ _ = .ok (.invokevirtual 22, 3) by decide +kernel) rfl rfl (by decide) wd_792 wd_793 wd_45 wd_795 wd_794 ⟨by decide +kernel, by decide +kernel, by decide +kernel⟩ rfl, trivial⟩⟩⟩⟩⟩⟩⟩⟩
theorem tm_11_2 : ax_all1 (ax_Sim ax_ME false RX2 cX2_restore 2 (some FieldType.boolean)) 32 [some (a_iconst 1 33), some (a_zret)] := ⟨sm_iconst (show decode _ _ = .ok (.iconst 1, 1) by decide +kernel) (by decide +kernel) rfl, ⟨sm_zret (show decode _ _ = .ok (.ireturn, 1) by decide +kernel) rfl, trivial⟩⟩
theorem tm_11 : ∀ (pc : Nat) (act : ax_Act), ax_row t_11 pc = some act → ax_Sim ax_ME false RX2 cX2_restore 2 (some FieldType.boolean) pc act := ax_row_all ⟨tm_11_0, ⟨tm_11_1, ⟨tm_11_2, trivial⟩⟩⟩
theorem tm_12_0 : ax_all1 (ax_Sim ax_ME true RX3 cX3_init 1 none) 0 [some (a_aload 0 1), some (a_oinit 4), none, none, some (a_aload 0 5), some (a_new 7 10 8), none, none, some (a_dup 9), some (a_callV 7 10 30 0 12), none, none, some (a_putR 3 2 0 15), none, none, some (a_aload 0 16)] := ⟨sm_aload_n (show decode _ _ = .ok (.aload_n 0, 1) by decide +kernel) rfl rfl, ⟨sm_oinit (show decode _ _ = .ok (.invokespecial 1, 3) by decide +kernel) wd_239 wd_66 wd_67 rfl, ⟨sm_aload_n (show decode _ _ = .ok (.aload_n 0, 1) by decide +kernel) rfl rfl, ⟨sm_new (C := RX7) (T := TX7) (show decode _ _ = .ok (.new 7, 3) by decide +kernel) wd_240 wd_241 wd_50 inX7 tyX7 tyX7_ok rfl (by decide) (by decide +kernel) rfl, ⟨sm_dup (show decode _ _ = .ok (.dup, 1) by decide +kernel) rfl, ⟨sm_callIN (show decode _ _ = .ok (.invokespecial 9, 3) by decide +kernel) rfl wd_242 wd_243 wd_50 wd_244 rfl rfl ⟨by decide +kernel, by decide +kernel, by decide +kernel⟩ rfl, ⟨sm_putRF (C := RX3) (T := TX3) (ty := .object "ShadowTailor$Street") (show decode _ _ = .ok (.putfield 10, 3) by decide +kernel) wd_324 inX3 tyX3 tyX3_ok nmX3 rfl (by decide) rfl rfl (by decide) rfl rfl rfl (by decide +kernel) (Or.inl ⟨_, rfl⟩) rfl, ⟨sm_aload_n (show decode _ _ = .ok (.aload_n 0, 1) by decide +kernel) rfl rfl, trivial⟩⟩⟩⟩⟩⟩⟩⟩
theorem tm_12_1 : ax_all1 (ax_Sim ax_ME true RX3 cX3_init 1 none) 16 [some (a_new 6 7 19), none, none, some (a_dup 20), some (a_callV 6 7 23 0 23), none, none, some (a_putR 3 2 1 26), none, none, some (a_vret)] := ⟨sm_new (C := RX6) (T := TX6) (show decode _ _ = .ok (.new 16, 3) by decide +kernel) wd_286 wd_287 wd_51 inX6 tyX6 tyX6_ok rfl (by decide) (by decide +kernel) rfl, ⟨sm_dup (show decode _ _ = .ok (.dup, 1) by decide +kernel) rfl, ⟨sm_callIN (show decode _ _ = .ok (.invokespecial 18, 3) by decide +kernel) rfl wd_288 wd_289 wd_51 wd_290 rfl rfl ⟨by decide +kernel, by decide +kernel, by decide +kernel⟩ rfl, ⟨sm_putRF (C := RX3) (T := TX3) (ty := .object "ShadowTailor$Stock") (show decode _ _ = .ok (.putfield 19, 3) by decide +kernel) wd_327 inX3 tyX3 tyX3_ok nmX3 rfl (by decide) rfl rfl (by decide) rfl rfl rfl (by decide +kernel) (Or.inl ⟨_, rfl⟩) rfl, ⟨sm_vret (show decode _ _ = .ok (.return_, 1) by decide +kernel) rfl, trivial⟩⟩⟩⟩⟩
theorem tm_12 : ∀ (pc : Nat) (act : ax_Act), ax_row t_12 pc = some act → ax_Sim ax_ME true RX3 cX3_init 1 none pc act := ax_row_all ⟨tm_12_0, ⟨tm_12_1, trivial⟩⟩
theorem tm_13_0 : ax_all1 (ax_Sim ax_ME false RX3 cX3_clear 1 none) 0 [some (a_aload 0 1), some (a_getR 3 2 0 4), none, none, some (a_callV 7 10 31 0 7), none, none, some (a_aload 0 8), some (a_getR 3 2 1 11), none, none, some (a_callV 6 7 24 0 14), none, none, some (a_vret)] := ⟨sm_aload_n (show decode _ _ = .ok (.aload_n 0, 1) by decide +kernel) rfl rfl, ⟨sm_getR (C := RX3) (T := TX3) (show decode _ _ = .ok (.getfield 10, 3) by decide +kernel) wd_324 inX3 rfl (by decide) rfl rfl (by decide) rfl, ⟨sm_callV (C := RX7) (T := TX7) (show decode _ _ = .ok (.invokevirtual 23, 3) by decide +kernel) rfl rfl (by decide) wd_400 wd_401 wd_50 wd_403 wd_402 ⟨by decide +kernel, by decide +kernel, by decide +kernel⟩ rfl, ⟨sm_aload_n (show decode _ _ = .ok (.aload_n 0, 1) by decide +kernel) rfl rfl, ⟨sm_getR (C := RX3) (T := TX3) (show decode _ _ = .ok (.getfield 19, 3) by decide +kernel) wd_327 inX3 rfl (by decide) rfl rfl (by decide) rfl, ⟨sm_callV (C := RX6) (T := TX6) (show decode _ _ = .ok (.invokevirtual 26, 3) by decide +kernel) rfl rfl (by decide) wd_404 wd_405 wd_51 wd_407 wd_406 ⟨by decide +kernel, by decide +kernel, by decide +kernel⟩ rfl, ⟨sm_vret (show decode _ _ = .ok (.return_, 1) by decide +kernel) rfl, trivial⟩⟩⟩⟩⟩⟩⟩
theorem tm_13 : ∀ (pc : Nat) (act : ax_Act), ax_row t_13 pc = some act → ax_Sim ax_ME false RX3 cX3_clear 1 none pc act := ax_row_all ⟨tm_13_0, trivial⟩
theorem tm_14_0 : ax_all1 (ax_Sim ax_ME true RX4 cX4_init 1 none) 0 [some (a_aload 0 1), some (a_oinit 4), none, none, some (a_aload 0 5), some (a_iconst 6 7), none, some (a_newa 100 6 9), none, some (a_putR 4 3 0 12), none, none, some (a_aload 0 13), some (a_iconst 6 15), none, some (a_newa 100 6 17)] := ⟨sm_aload_n (show decode _ _ = .ok (.aload_n 0, 1) by decide +kernel) rfl rfl, ⟨sm_oinit (show decode _ _ = .ok (.invokespecial 3, 3) by decide +kernel) wd_160 wd_66 wd_67 rfl, ⟨sm_aload_n (show decode _ _ = .ok (.aload_n 0, 1) by decide +kernel) rfl rfl, ⟨sm_bipush (show decode _ _ = .ok (.bipush 6, 2) by decide +kernel) (by decide +kernel) rfl, ⟨sm_newai (show decode _ _ = .ok (.newarray .int, 2) by decide +kernel) wd_94 (by decide) rfl, ⟨sm_putRF (C := RX4) (T := TX4) (ty := .array .int) (show decode _ _ = .ok (.putfield 9, 3) by decide +kernel) wd_161 inX4 tyX4 tyX4_ok nmX4 rfl (by decide) rfl rfl (by decide) rfl rfl rfl (by decide +kernel) (Or.inr ⟨_, rfl⟩) rfl, ⟨sm_aload_n (show decode _ _ = .ok (.aload_n 0, 1) by decide +kernel) rfl rfl, ⟨sm_bipush (show decode _ _ = .ok (.bipush 6, 2) by decide +kernel) (by decide +kernel) rfl, ⟨sm_newai (show decode _ _ = .ok (.newarray .int, 2) by decide +kernel) wd_94 (by decide) rfl, trivial⟩⟩⟩⟩⟩⟩⟩⟩⟩
theorem tm_14_1 : ax_all1 (ax_Sim ax_ME true RX4 cX4_init 1 none) 16 [none, some (a_putR 4 3 1 20), none, none, some (a_vret)] := ⟨sm_putRF (C := RX4) (T := TX4) (ty := .array .int) (show decode _ _ = .ok (.putfield 15, 3) by decide +kernel) wd_162 inX4 tyX4 tyX4_ok nmX4 rfl (by decide) rfl rfl (by decide) rfl rfl rfl (by decide +kernel) (Or.inr ⟨_, rfl⟩) rfl, ⟨sm_vret (show decode _ _ = .ok (.return_, 1) by decide +kernel) rfl, trivial⟩⟩
theorem tm_14 : ∀ (pc : Nat) (act : ax_Act), ax_row t_14 pc = some act → ax_Sim ax_ME true RX4 cX4_init 1 none pc act := ax_row_all ⟨tm_14_0, ⟨tm_14_1, trivial⟩⟩
theorem tm_15_0 : ax_all1 (ax_Sim ax_ME false RX4 cX4_add 3 (some FieldType.boolean)) 0 [some (a_aload 0 1), some (a_getI 4 3 2 4), none, none, some (a_iconst 6 6), none, some (a_clt 11 9), none, none, some (a_iconst 0 10), some (a_zret), some (a_aload 0 12), some (a_getR 4 3 0 15), none, none, some (a_aload 0 16)] := ⟨sm_aload_n (show decode _ _ = .ok (.aload_n 0, 1) by decide +kernel) rfl rfl, ⟨sm_getI (C := RX4) (T := TX4) (show decode _ _ = .ok (.getfield 18, 3) by decide +kernel) wd_163 inX4 rfl (by decide) rfl rfl (by decide) rfl, ⟨sm_bipush (show decode _ _ = .ok (.bipush 6, 2) by decide +kernel) (by decide +kernel) rfl, ⟨sm_clt (show decode _ _ = .ok (.if_icmp .lt 5, 3) by decide +kernel) (by decide) rfl, ⟨sm_iconst (show decode _ _ = .ok (.iconst 0, 1) by decide +kernel) (by decide +kernel) rfl, ⟨sm_zret (show decode _ _ = .ok (.ireturn, 1) by decide +kernel) rfl, ⟨sm_aload_n (show decode _ _ = .ok (.aload_n 0, 1) by decide +kernel) rfl rfl, ⟨sm_getR (C := RX4) (T := TX4) (show decode _ _ = .ok (.getfield 9, 3) by decide +kernel) wd_161 inX4 rfl (by decide) rfl rfl (by decide) rfl, ⟨sm_aload_n (show decode _ _ = .ok (.aload_n 0, 1) by decide +kernel) rfl rfl, trivial⟩⟩⟩⟩⟩⟩⟩⟩⟩
theorem tm_15_1 : ax_all1 (ax_Sim ax_ME false RX4 cX4_add 3 (some FieldType.boolean)) 16 [some (a_getI 4 3 2 19), none, none, some (a_iload 1 20), some (a_iast 21), some (a_aload 0 22), some (a_getR 4 3 1 25), none, none, some (a_aload 0 26), some (a_getI 4 3 2 29), none, none, some (a_iload 2 30), some (a_iast 31), some (a_aload 0 32)] := ⟨sm_getI (C := RX4) (T := TX4) (show decode _ _ = .ok (.getfield 18, 3) by decide +kernel) wd_163 inX4 rfl (by decide) rfl rfl (by decide) rfl, ⟨sm_iload_n (show decode _ _ = .ok (.iload_n 1, 1) by decide +kernel) rfl rfl, ⟨sm_iast (show decode _ _ = .ok (.iastore, 1) by decide +kernel) rfl, ⟨sm_aload_n (show decode _ _ = .ok (.aload_n 0, 1) by decide +kernel) rfl rfl, ⟨sm_getR (C := RX4) (T := TX4) (show decode _ _ = .ok (.getfield 15, 3) by decide +kernel) wd_162 inX4 rfl (by decide) rfl rfl (by decide) rfl, ⟨sm_aload_n (show decode _ _ = .ok (.aload_n 0, 1) by decide +kernel) rfl rfl, ⟨sm_getI (C := RX4) (T := TX4) (show decode _ _ = .ok (.getfield 18, 3) by decide +kernel) wd_163 inX4 rfl (by decide) rfl rfl (by decide) rfl, ⟨sm_iload_n (show decode _ _ = .ok (.iload_n 2, 1) by decide +kernel) rfl rfl, ⟨sm_iast (show decode _ _ = .ok (.iastore, 1) by decide +kernel) rfl, ⟨sm_aload_n (show decode _ _ = .ok (.aload_n 0, 1) by decide +kernel) rfl rfl, trivial⟩⟩⟩⟩⟩⟩⟩⟩⟩⟩
theorem tm_15_2 : ax_all1 (ax_Sim ax_ME false RX4 cX4_add 3 (some FieldType.boolean)) 32 [some (a_dup 33), some (a_getI 4 3 2 36), none, none, some (a_iconst 1 37), some (a_iadd 38), some (a_putI 4 3 2 41), none, none, some (a_iconst 1 42), some (a_zret)] := ⟨sm_dup (show decode _ _ = .ok (.dup, 1) by decide +kernel) rfl, ⟨sm_getI (C := RX4) (T := TX4) (show decode _ _ = .ok (.getfield 18, 3) by decide +kernel) wd_163 inX4 rfl (by decide) rfl rfl (by decide) rfl, ⟨sm_iconst (show decode _ _ = .ok (.iconst 1, 1) by decide +kernel) (by decide +kernel) rfl, ⟨sm_iadd (show decode _ _ = .ok (.iadd, 1) by decide +kernel) rfl, ⟨sm_putI (C := RX4) (T := TX4) (show decode _ _ = .ok (.putfield 18, 3) by decide +kernel) wd_163 inX4 tyX4 tyX4_ok nmX4 rfl (by decide) rfl rfl (by decide) rfl (by decide +kernel) rfl, ⟨sm_iconst (show decode _ _ = .ok (.iconst 1, 1) by decide +kernel) (by decide +kernel) rfl, ⟨sm_zret (show decode _ _ = .ok (.ireturn, 1) by decide +kernel) rfl, trivial⟩⟩⟩⟩⟩⟩⟩
theorem tm_15 : ∀ (pc : Nat) (act : ax_Act), ax_row t_15 pc = some act → ax_Sim ax_ME false RX4 cX4_add 3 (some FieldType.boolean) pc act := ax_row_all ⟨tm_15_0, ⟨tm_15_1, ⟨tm_15_2, trivial⟩⟩⟩
theorem tm_16_0 : ax_all1 (ax_Sim ax_ME false RX4 cX4_suspects 4 (some FieldType.int)) 0 [some (a_iconst 0 1), some (a_istore 2 2), some (a_iconst 0 3), some (a_istore 3 4), some (a_iload 3 5), some (a_aload 1 6), some (a_getI 7 10 8 9), none, none, some (a_cge 33 12), none, none, some (a_aload 0 13), some (a_aload 1 14), some (a_iload 3 15), some (a_callV 4 3 17 2 18)] := ⟨sm_iconst (show decode _ _ = .ok (.iconst 0, 1) by decide +kernel) (by decide +kernel) rfl, ⟨sm_istore_n (show decode _ _ = .ok (.istore_n 2, 1) by decide +kernel) rfl (by decide) rfl, ⟨sm_iconst (show decode _ _ = .ok (.iconst 0, 1) by decide +kernel) (by decide +kernel) rfl, ⟨sm_istore_n (show decode _ _ = .ok (.istore_n 3, 1) by decide +kernel) rfl (by decide) rfl, ⟨sm_iload_n (show decode _ _ = .ok (.iload_n 3, 1) by decide +kernel) rfl rfl, ⟨sm_aload_n (show decode _ _ = .ok (.aload_n 1, 1) by decide +kernel) rfl rfl, ⟨sm_getIN (C := RX7) (T := TX7) (show decode _ _ = .ok (.getfield 22, 3) by decide +kernel) wd_261 inX7 rfl (by decide) rfl rfl (by decide) rfl, ⟨sm_cge (show decode _ _ = .ok (.if_icmp .ge 24, 3) by decide +kernel) (by decide) rfl, ⟨sm_aload_n (show decode _ _ = .ok (.aload_n 0, 1) by decide +kernel) rfl rfl, ⟨sm_aload_n (show decode _ _ = .ok (.aload_n 1, 1) by decide +kernel) rfl rfl, ⟨sm_iload_n (show decode _ _ = .ok (.iload_n 3, 1) by decide +kernel) rfl rfl, ⟨sm_callV (C := RX4) (T := TX4) (show decode _ _ = .ok (.invokevirtual 27, 3) by decide +kernel) rfl rfl (by decide) wd_683 wd_685 wd_46 wd_686 wd_5 ⟨by decide +kernel, by decide +kernel, by decide +kernel⟩ rfl, trivial⟩⟩⟩⟩⟩⟩⟩⟩⟩⟩⟩⟩
theorem tm_16_1 : ax_all1 (ax_Sim ax_ME false RX4 cX4_suspects 4 (some FieldType.int)) 16 [none, none, some (a_zeq 27 21), none, none, some (a_iload 2 22), some (a_iconst 1 23), some (a_iload 3 24), some (a_ishl 25), some (a_ior 26), some (a_istore 2 27), some (a_iinc 3 1 30), none, none, some (a_goto 4), none] := ⟨sm_zeq (show decode _ _ = .ok (.ifCond .eq 9, 3) by decide +kernel) (by decide) rfl, ⟨sm_iload_n (show decode _ _ = .ok (.iload_n 2, 1) by decide +kernel) rfl rfl, ⟨sm_iconst (show decode _ _ = .ok (.iconst 1, 1) by decide +kernel) (by decide +kernel) rfl, ⟨sm_iload_n (show decode _ _ = .ok (.iload_n 3, 1) by decide +kernel) rfl rfl, ⟨sm_ishl (show decode _ _ = .ok (.ishl, 1) by decide +kernel) rfl, ⟨sm_ior (show decode _ _ = .ok (.ior, 1) by decide +kernel) rfl, ⟨sm_istore_n (show decode _ _ = .ok (.istore_n 2, 1) by decide +kernel) rfl (by decide) rfl, ⟨sm_iinc (show decode _ _ = .ok (.iinc 3 1, 3) by decide +kernel) (by decide +kernel) (by decide) rfl, ⟨sm_goto (show decode _ _ = .ok (.goto (-26), 3) by decide +kernel) (by decide), trivial⟩⟩⟩⟩⟩⟩⟩⟩⟩
theorem tm_16_2 : ax_all1 (ax_Sim ax_ME false RX4 cX4_suspects 4 (some FieldType.int)) 32 [none, some (a_iload 2 34), some (a_iret)] := ⟨sm_iload_n (show decode _ _ = .ok (.iload_n 2, 1) by decide +kernel) rfl rfl, ⟨sm_iret (show decode _ _ = .ok (.ireturn, 1) by decide +kernel) rfl, trivial⟩⟩
theorem tm_16 : ∀ (pc : Nat) (act : ax_Act), ax_row t_16 pc = some act → ax_Sim ax_ME false RX4 cX4_suspects 4 (some FieldType.int) pc act := ax_row_all ⟨tm_16_0, ⟨tm_16_1, ⟨tm_16_2, trivial⟩⟩⟩
theorem tm_17_0 : ax_all1 (ax_Sim ax_ME false RX4 cX4_fits 4 (some FieldType.boolean)) 0 [some (a_iconst 0 1), some (a_istore 3 2), some (a_iload 3 3), some (a_aload 0 4), some (a_getI 4 3 2 7), none, none, some (a_cge 38 10), none, none, some (a_aload 1 11), some (a_iload 2 12), some (a_aload 0 13), some (a_getR 4 3 0 16), none, none] := ⟨sm_iconst (show decode _ _ = .ok (.iconst 0, 1) by decide +kernel) (by decide +kernel) rfl, ⟨sm_istore_n (show decode _ _ = .ok (.istore_n 3, 1) by decide +kernel) rfl (by decide) rfl, ⟨sm_iload_n (show decode _ _ = .ok (.iload_n 3, 1) by decide +kernel) rfl rfl, ⟨sm_aload_n (show decode _ _ = .ok (.aload_n 0, 1) by decide +kernel) rfl rfl, ⟨sm_getI (C := RX4) (T := TX4) (show decode _ _ = .ok (.getfield 18, 3) by decide +kernel) wd_163 inX4 rfl (by decide) rfl rfl (by decide) rfl, ⟨sm_cge (show decode _ _ = .ok (.if_icmp .ge 31, 3) by decide +kernel) (by decide) rfl, ⟨sm_aload_n (show decode _ _ = .ok (.aload_n 1, 1) by decide +kernel) rfl rfl, ⟨sm_iload_n (show decode _ _ = .ok (.iload_n 2, 1) by decide +kernel) rfl rfl, ⟨sm_aload_n (show decode _ _ = .ok (.aload_n 0, 1) by decide +kernel) rfl rfl, ⟨sm_getR (C := RX4) (T := TX4) (show decode _ _ = .ok (.getfield 9, 3) by decide +kernel) wd_161 inX4 rfl (by decide) rfl rfl (by decide) rfl, trivial⟩⟩⟩⟩⟩⟩⟩⟩⟩⟩
theorem tm_17_1 : ax_all1 (ax_Sim ax_ME false RX4 cX4_fits 4 (some FieldType.boolean)) 16 [some (a_iload 3 17), some (a_iald 18), some (a_callV 7 10 41 2 21), none, none, some (a_aload 0 22), some (a_getR 4 3 1 25), none, none, some (a_iload 3 26), some (a_iald 27), some (a_ceq 32 30), none, none, some (a_iconst 0 31), some (a_zret)] := ⟨sm_iload_n (show decode _ _ = .ok (.iload_n 3, 1) by decide +kernel) rfl rfl, ⟨sm_iald (show decode _ _ = .ok (.iaload, 1) by decide +kernel) rfl, ⟨sm_callV (C := RX7) (T := TX7) (show decode _ _ = .ok (.invokevirtual 31, 3) by decide +kernel) rfl rfl (by decide) wd_687 wd_561 wd_50 wd_563 wd_562 ⟨by decide +kernel, by decide +kernel, by decide +kernel⟩ rfl, ⟨sm_aload_n (show decode _ _ = .ok (.aload_n 0, 1) by decide +kernel) rfl rfl, ⟨sm_getR (C := RX4) (T := TX4) (show decode _ _ = .ok (.getfield 15, 3) by decide +kernel) wd_162 inX4 rfl (by decide) rfl rfl (by decide) rfl, ⟨sm_iload_n (show decode _ _ = .ok (.iload_n 3, 1) by decide +kernel) rfl rfl, ⟨sm_iald (show decode _ _ = .ok (.iaload, 1) by decide +kernel) rfl, ⟨sm_ceq (show decode _ _ = .ok (.if_icmp .eq 5, 3) by decide +kernel) (by decide) rfl, ⟨sm_iconst (show decode _ _ = .ok (.iconst 0, 1) by decide +kernel) (by decide +kernel) rfl, ⟨sm_zret (show decode _ _ = .ok (.ireturn, 1) by decide +kernel) rfl, trivial⟩⟩⟩⟩⟩⟩⟩⟩⟩⟩
theorem tm_17_2 : ax_all1 (ax_Sim ax_ME false RX4 cX4_fits 4 (some FieldType.boolean)) 32 [some (a_iinc 3 1 35), none, none, some (a_goto 2), none, none, some (a_iconst 1 39), some (a_zret)] := ⟨sm_iinc (show decode _ _ = .ok (.iinc 3 1, 3) by decide +kernel) (by decide +kernel) (by decide) rfl, ⟨sm_goto (show decode _ _ = .ok (.goto (-33), 3) by decide +kernel) (by decide), ⟨sm_iconst (show decode _ _ = .ok (.iconst 1, 1) by decide +kernel) (by decide +kernel) rfl, ⟨sm_zret (show decode _ _ = .ok (.ireturn, 1) by decide +kernel) rfl, trivial⟩⟩⟩⟩
theorem tm_17 : ∀ (pc : Nat) (act : ax_Act), ax_row t_17 pc = some act → ax_Sim ax_ME false RX4 cX4_fits 4 (some FieldType.boolean) pc act := ax_row_all ⟨tm_17_0, ⟨tm_17_1, ⟨tm_17_2, trivial⟩⟩⟩
theorem tm_18_0 : ax_all1 (ax_Sim ax_ME false RX4 cX4_mostAlike 8 (some FieldType.int)) 0 [some (a_iconst 0 1), some (a_istore 3 2), some (a_iconst 0 3), some (a_istore 4 5), none, some (a_iload 4 7), none, some (a_aload 0 8), some (a_getI 7 10 8 11), none, none, some (a_cge 95 14), none, none, some (a_iconst 0 15), some (a_istore 5 17)] := ⟨sm_iconst (show decode _ _ = .ok (.iconst 0, 1) by decide +kernel) (by decide +kernel) rfl, ⟨sm_istore_n (show decode _ _ = .ok (.istore_n 3, 1) by decide +kernel) rfl (by decide) rfl, ⟨sm_iconst (show decode _ _ = .ok (.iconst 0, 1) by decide +kernel) (by decide +kernel) rfl, ⟨sm_istore (show decode _ _ = .ok (.istore 4, 2) by decide +kernel) (by decide) rfl, ⟨sm_iload (show decode _ _ = .ok (.iload 4, 2) by decide +kernel) rfl, ⟨sm_aload_n (show decode _ _ = .ok (.aload_n 0, 1) by decide +kernel) rfl rfl, ⟨sm_getIN (C := RX7) (T := TX7) (show decode _ _ = .ok (.getfield 22, 3) by decide +kernel) wd_261 inX7 rfl (by decide) rfl rfl (by decide) rfl, ⟨sm_cge (show decode _ _ = .ok (.if_icmp .ge 84, 3) by decide +kernel) (by decide) rfl, ⟨sm_iconst (show decode _ _ = .ok (.iconst 0, 1) by decide +kernel) (by decide +kernel) rfl, ⟨sm_istore (show decode _ _ = .ok (.istore 5, 2) by decide +kernel) (by decide) rfl, trivial⟩⟩⟩⟩⟩⟩⟩⟩⟩⟩
theorem tm_18_1 : ax_all1 (ax_Sim ax_ME false RX4 cX4_mostAlike 8 (some FieldType.int)) 16 [none, some (a_iconst 0 18), some (a_istore 6 20), none, some (a_iload 6 22), none, some (a_aload 0 23), some (a_getI 7 10 8 26), none, none, some (a_cge 82 29), none, none, some (a_iload 1 30), some (a_iload 4 32), none] := ⟨sm_iconst (show decode _ _ = .ok (.iconst 0, 1) by decide +kernel) (by decide +kernel) rfl, ⟨sm_istore (show decode _ _ = .ok (.istore 6, 2) by decide +kernel) (by decide) rfl, ⟨sm_iload (show decode _ _ = .ok (.iload 6, 2) by decide +kernel) rfl, ⟨sm_aload_n (show decode _ _ = .ok (.aload_n 0, 1) by decide +kernel) rfl rfl, ⟨sm_getIN (C := RX7) (T := TX7) (show decode _ _ = .ok (.getfield 22, 3) by decide +kernel) wd_261 inX7 rfl (by decide) rfl rfl (by decide) rfl, ⟨sm_cge (show decode _ _ = .ok (.if_icmp .ge 56, 3) by decide +kernel) (by decide) rfl, ⟨sm_iload_n (show decode _ _ = .ok (.iload_n 1, 1) by decide +kernel) rfl rfl, ⟨sm_iload (show decode _ _ = .ok (.iload 4, 2) by decide +kernel) rfl, trivial⟩⟩⟩⟩⟩⟩⟩⟩
theorem tm_18_2 : ax_all1 (ax_Sim ax_ME false RX4 cX4_mostAlike 8 (some FieldType.int)) 32 [some (a_ishr 33), some (a_iload 1 34), some (a_iload 6 36), none, some (a_ishr 37), some (a_iand 38), some (a_iconst 1 39), some (a_iand 40), some (a_iconst 1 41), some (a_cne 48 44), none, none, some (a_iconst 1 45), some (a_goto 49), none, none] := ⟨sm_ishr (show decode _ _ = .ok (.ishr, 1) by decide +kernel) rfl, ⟨sm_iload_n (show decode _ _ = .ok (.iload_n 1, 1) by decide +kernel) rfl rfl, ⟨sm_iload (show decode _ _ = .ok (.iload 6, 2) by decide +kernel) rfl, ⟨sm_ishr (show decode _ _ = .ok (.ishr, 1) by decide +kernel) rfl, ⟨sm_iand (show decode _ _ = .ok (.iand, 1) by decide +kernel) rfl, ⟨sm_iconst (show decode _ _ = .ok (.iconst 1, 1) by decide +kernel) (by decide +kernel) rfl, ⟨sm_iand (show decode _ _ = .ok (.iand, 1) by decide +kernel) rfl, ⟨sm_iconst (show decode _ _ = .ok (.iconst 1, 1) by decide +kernel) (by decide +kernel) rfl, ⟨sm_cne (show decode _ _ = .ok (.if_icmp .ne 7, 3) by decide +kernel) (by decide) rfl, ⟨sm_iconst (show decode _ _ = .ok (.iconst 1, 1) by decide +kernel) (by decide +kernel) rfl, ⟨sm_goto (show decode _ _ = .ok (.goto 4, 3) by decide +kernel) (by decide), trivial⟩⟩⟩⟩⟩⟩⟩⟩⟩⟩⟩
theorem tm_18_3 : ax_all1 (ax_Sim ax_ME false RX4 cX4_mostAlike 8 (some FieldType.int)) 48 [some (a_iconst 0 49), some (a_istore 7 51), none, some (a_iload 7 53), none, some (a_zeq 76 56), none, none, some (a_aload 0 57), some (a_iload 4 59), none, some (a_iload 2 60), some (a_callV 7 10 41 2 63), none, none, some (a_aload 0 64)] := ⟨sm_iconst (show decode _ _ = .ok (.iconst 0, 1) by decide +kernel) (by decide +kernel) rfl, ⟨sm_istore (show decode _ _ = .ok (.istore 7, 2) by decide +kernel) (by decide) rfl, ⟨sm_iload (show decode _ _ = .ok (.iload 7, 2) by decide +kernel) rfl, ⟨sm_zeq (show decode _ _ = .ok (.ifCond .eq 23, 3) by decide +kernel) (by decide) rfl, ⟨sm_aload_n (show decode _ _ = .ok (.aload_n 0, 1) by decide +kernel) rfl rfl, ⟨sm_iload (show decode _ _ = .ok (.iload 4, 2) by decide +kernel) rfl, ⟨sm_iload_n (show decode _ _ = .ok (.iload_n 2, 1) by decide +kernel) rfl rfl, ⟨sm_callV (C := RX7) (T := TX7) (show decode _ _ = .ok (.invokevirtual 31, 3) by decide +kernel) rfl rfl (by decide) wd_687 wd_561 wd_50 wd_563 wd_562 ⟨by decide +kernel, by decide +kernel, by decide +kernel⟩ rfl, ⟨sm_aload_n (show decode _ _ = .ok (.aload_n 0, 1) by decide +kernel) rfl rfl, trivial⟩⟩⟩⟩⟩⟩⟩⟩⟩
theorem tm_18_4 : ax_all1 (ax_Sim ax_ME false RX4 cX4_mostAlike 8 (some FieldType.int)) 64 [some (a_iload 6 66), none, some (a_iload 2 67), some (a_callV 7 10 41 2 70), none, none, some (a_cne 76 73), none, none, some (a_iinc 5 1 76), none, none, some (a_iinc 6 1 79), none, none, some (a_goto 20)] := ⟨sm_iload (show decode _ _ = .ok (.iload 6, 2) by decide +kernel) rfl, ⟨sm_iload_n (show decode _ _ = .ok (.iload_n 2, 1) by decide +kernel) rfl rfl, ⟨sm_callV (C := RX7) (T := TX7) (show decode _ _ = .ok (.invokevirtual 31, 3) by decide +kernel) rfl rfl (by decide) wd_687 wd_561 wd_50 wd_563 wd_562 ⟨by decide +kernel, by decide +kernel, by decide +kernel⟩ rfl, ⟨sm_cne (show decode _ _ = .ok (.if_icmp .ne 6, 3) by decide +kernel) (by decide) rfl, ⟨sm_iinc (show decode _ _ = .ok (.iinc 5 1, 3) by decide +kernel) (by decide +kernel) (by decide) rfl, ⟨sm_iinc (show decode _ _ = .ok (.iinc 6 1, 3) by decide +kernel) (by decide +kernel) (by decide) rfl, ⟨sm_goto (show decode _ _ = .ok (.goto (-59), 3) by decide +kernel) (by decide), trivial⟩⟩⟩⟩⟩⟩⟩
theorem tm_18_5 : ax_all1 (ax_Sim ax_ME false RX4 cX4_mostAlike 8 (some FieldType.int)) 80 [none, none, some (a_iload 3 83), some (a_iload 5 85), none, some (a_callS 175 2 88), none, none, some (a_istore 3 89), some (a_iinc 4 1 92), none, none, some (a_goto 5), none, none, some (a_iload 3 96)] := ⟨sm_iload_n (show decode _ _ = .ok (.iload_n 3, 1) by decide +kernel) rfl rfl, ⟨sm_iload (show decode _ _ = .ok (.iload 5, 2) by decide +kernel) rfl, ⟨sm_callS (show decode _ _ = .ok (.invokestatic 35, 3) by decide +kernel) rfl wd_695 wd_550 wd_57 wd_551 ⟨by decide +kernel, by decide +kernel, by decide +kernel⟩ rfl, ⟨sm_istore_n (show decode _ _ = .ok (.istore_n 3, 1) by decide +kernel) rfl (by decide) rfl, ⟨sm_iinc (show decode _ _ = .ok (.iinc 4 1, 3) by decide +kernel) (by decide +kernel) (by decide) rfl, ⟨sm_goto (show decode _ _ = .ok (.goto (-87), 3) by decide +kernel) (by decide), ⟨sm_iload_n (show decode _ _ = .ok (.iload_n 3, 1) by decide +kernel) rfl rfl, trivial⟩⟩⟩⟩⟩⟩⟩
theorem tm_18_6 : ax_all1 (ax_Sim ax_ME false RX4 cX4_mostAlike 8 (some FieldType.int)) 96 [some (a_iret)] := ⟨sm_iret (show decode _ _ = .ok (.ireturn, 1) by decide +kernel) rfl, trivial⟩
theorem tm_18 : ∀ (pc : Nat) (act : ax_Act), ax_row t_18 pc = some act → ax_Sim ax_ME false RX4 cX4_mostAlike 8 (some FieldType.int) pc act := ax_row_all ⟨tm_18_0, ⟨tm_18_1, ⟨tm_18_2, ⟨tm_18_3, ⟨tm_18_4, ⟨tm_18_5, ⟨tm_18_6, trivial⟩⟩⟩⟩⟩⟩⟩
theorem tm_19_0 : ax_all1 (ax_Sim ax_ME true RX5 cX5_init 1 none) 0 [some (a_aload 0 1), some (a_oinit 4), none, none, some (a_aload 0 5), some (a_iconst 6 7), none, some (a_newa 100 6 9), none, some (a_putR 5 5 0 12), none, none, some (a_aload 0 13), some (a_iconst 9 15), none, some (a_newa 100 9 17)] := ⟨sm_aload_n (show decode _ _ = .ok (.aload_n 0, 1) by decide +kernel) rfl rfl, ⟨sm_oinit (show decode _ _ = .ok (.invokespecial 3, 3) by decide +kernel) wd_124 wd_66 wd_67 rfl, ⟨sm_aload_n (show decode _ _ = .ok (.aload_n 0, 1) by decide +kernel) rfl rfl, ⟨sm_bipush (show decode _ _ = .ok (.bipush 6, 2) by decide +kernel) (by decide +kernel) rfl, ⟨sm_newai (show decode _ _ = .ok (.newarray .int, 2) by decide +kernel) wd_94 (by decide) rfl, ⟨sm_putRF (C := RX5) (T := TX5) (ty := .array .int) (show decode _ _ = .ok (.putfield 9, 3) by decide +kernel) wd_125 inX5 tyX5 tyX5_ok nmX5 rfl (by decide) rfl rfl (by decide) rfl rfl rfl (by decide +kernel) (Or.inr ⟨_, rfl⟩) rfl, ⟨sm_aload_n (show decode _ _ = .ok (.aload_n 0, 1) by decide +kernel) rfl rfl, ⟨sm_bipush (show decode _ _ = .ok (.bipush 9, 2) by decide +kernel) (by decide +kernel) rfl, ⟨sm_newai (show decode _ _ = .ok (.newarray .int, 2) by decide +kernel) wd_94 (by decide) rfl, trivial⟩⟩⟩⟩⟩⟩⟩⟩⟩
theorem tm_19_1 : ax_all1 (ax_Sim ax_ME true RX5 cX5_init 1 none) 16 [none, some (a_putR 5 5 1 20), none, none, some (a_aload 0 21), some (a_iconst 9 23), none, some (a_newa 100 9 25), none, some (a_putR 5 5 2 28), none, none, some (a_aload 0 29), some (a_iconst 9 31), none, some (a_newa 100 9 33)] := ⟨sm_putRF (C := RX5) (T := TX5) (ty := .array .int) (show decode _ _ = .ok (.putfield 15, 3) by decide +kernel) wd_129 inX5 tyX5 tyX5_ok nmX5 rfl (by decide) rfl rfl (by decide) rfl rfl rfl (by decide +kernel) (Or.inr ⟨_, rfl⟩) rfl, ⟨sm_aload_n (show decode _ _ = .ok (.aload_n 0, 1) by decide +kernel) rfl rfl, ⟨sm_bipush (show decode _ _ = .ok (.bipush 9, 2) by decide +kernel) (by decide +kernel) rfl, ⟨sm_newai (show decode _ _ = .ok (.newarray .int, 2) by decide +kernel) wd_94 (by decide) rfl, ⟨sm_putRF (C := RX5) (T := TX5) (ty := .array .int) (show decode _ _ = .ok (.putfield 18, 3) by decide +kernel) wd_130 inX5 tyX5 tyX5_ok nmX5 rfl (by decide) rfl rfl (by decide) rfl rfl rfl (by decide +kernel) (Or.inr ⟨_, rfl⟩) rfl, ⟨sm_aload_n (show decode _ _ = .ok (.aload_n 0, 1) by decide +kernel) rfl rfl, ⟨sm_bipush (show decode _ _ = .ok (.bipush 9, 2) by decide +kernel) (by decide +kernel) rfl, ⟨sm_newai (show decode _ _ = .ok (.newarray .int, 2) by decide +kernel) wd_94 (by decide) rfl, trivial⟩⟩⟩⟩⟩⟩⟩⟩
theorem tm_19_2 : ax_all1 (ax_Sim ax_ME true RX5 cX5_init 1 none) 32 [none, some (a_putR 5 5 3 36), none, none, some (a_vret)] := ⟨sm_putRF (C := RX5) (T := TX5) (ty := .array .int) (show decode _ _ = .ok (.putfield 21, 3) by decide +kernel) wd_131 inX5 tyX5 tyX5_ok nmX5 rfl (by decide) rfl rfl (by decide) rfl rfl rfl (by decide +kernel) (Or.inr ⟨_, rfl⟩) rfl, ⟨sm_vret (show decode _ _ = .ok (.return_, 1) by decide +kernel) rfl, trivial⟩⟩
theorem tm_19 : ∀ (pc : Nat) (act : ax_Act), ax_row t_19 pc = some act → ax_Sim ax_ME true RX5 cX5_init 1 none pc act := ax_row_all ⟨tm_19_0, ⟨tm_19_1, ⟨tm_19_2, trivial⟩⟩⟩
theorem tm_20_0 : ax_all1 (ax_Sim ax_ME false RX5 cX5_addWalk 4 (some FieldType.boolean)) 0 [some (a_aload 0 1), some (a_getI 5 5 4 4), none, none, some (a_iconst 9 6), none, some (a_clt 11 9), none, none, some (a_iconst 0 10), some (a_zret), some (a_aload 0 12), some (a_getR 5 5 1 15), none, none, some (a_aload 0 16)] := ⟨sm_aload_n (show decode _ _ = .ok (.aload_n 0, 1) by decide +kernel) rfl rfl, ⟨sm_getI (C := RX5) (T := TX5) (show decode _ _ = .ok (.getfield 24, 3) by decide +kernel) wd_132 inX5 rfl (by decide) rfl rfl (by decide) rfl, ⟨sm_bipush (show decode _ _ = .ok (.bipush 9, 2) by decide +kernel) (by decide +kernel) rfl, ⟨sm_clt (show decode _ _ = .ok (.if_icmp .lt 5, 3) by decide +kernel) (by decide) rfl, ⟨sm_iconst (show decode _ _ = .ok (.iconst 0, 1) by decide +kernel) (by decide +kernel) rfl, ⟨sm_zret (show decode _ _ = .ok (.ireturn, 1) by decide +kernel) rfl, ⟨sm_aload_n (show decode _ _ = .ok (.aload_n 0, 1) by decide +kernel) rfl rfl, ⟨sm_getR (C := RX5) (T := TX5) (show decode _ _ = .ok (.getfield 15, 3) by decide +kernel) wd_129 inX5 rfl (by decide) rfl rfl (by decide) rfl, ⟨sm_aload_n (show decode _ _ = .ok (.aload_n 0, 1) by decide +kernel) rfl rfl, trivial⟩⟩⟩⟩⟩⟩⟩⟩⟩
theorem tm_20_1 : ax_all1 (ax_Sim ax_ME false RX5 cX5_addWalk 4 (some FieldType.boolean)) 16 [some (a_getI 5 5 4 19), none, none, some (a_iload 1 20), some (a_iast 21), some (a_aload 0 22), some (a_getR 5 5 2 25), none, none, some (a_aload 0 26), some (a_getI 5 5 4 29), none, none, some (a_iload 2 30), some (a_iast 31), some (a_aload 0 32)] := ⟨sm_getI (C := RX5) (T := TX5) (show decode _ _ = .ok (.getfield 24, 3) by decide +kernel) wd_132 inX5 rfl (by decide) rfl rfl (by decide) rfl, ⟨sm_iload_n (show decode _ _ = .ok (.iload_n 1, 1) by decide +kernel) rfl rfl, ⟨sm_iast (show decode _ _ = .ok (.iastore, 1) by decide +kernel) rfl, ⟨sm_aload_n (show decode _ _ = .ok (.aload_n 0, 1) by decide +kernel) rfl rfl, ⟨sm_getR (C := RX5) (T := TX5) (show decode _ _ = .ok (.getfield 18, 3) by decide +kernel) wd_130 inX5 rfl (by decide) rfl rfl (by decide) rfl, ⟨sm_aload_n (show decode _ _ = .ok (.aload_n 0, 1) by decide +kernel) rfl rfl, ⟨sm_getI (C := RX5) (T := TX5) (show decode _ _ = .ok (.getfield 24, 3) by decide +kernel) wd_132 inX5 rfl (by decide) rfl rfl (by decide) rfl, ⟨sm_iload_n (show decode _ _ = .ok (.iload_n 2, 1) by decide +kernel) rfl rfl, ⟨sm_iast (show decode _ _ = .ok (.iastore, 1) by decide +kernel) rfl, ⟨sm_aload_n (show decode _ _ = .ok (.aload_n 0, 1) by decide +kernel) rfl rfl, trivial⟩⟩⟩⟩⟩⟩⟩⟩⟩⟩
theorem tm_20_2 : ax_all1 (ax_Sim ax_ME false RX5 cX5_addWalk 4 (some FieldType.boolean)) 32 [some (a_getR 5 5 3 35), none, none, some (a_aload 0 36), some (a_getI 5 5 4 39), none, none, some (a_iload 3 40), some (a_iast 41), some (a_aload 0 42), some (a_dup 43), some (a_getI 5 5 4 46), none, none, some (a_iconst 1 47), some (a_iadd 48)] := ⟨sm_getR (C := RX5) (T := TX5) (show decode _ _ = .ok (.getfield 21, 3) by decide +kernel) wd_131 inX5 rfl (by decide) rfl rfl (by decide) rfl, ⟨sm_aload_n (show decode _ _ = .ok (.aload_n 0, 1) by decide +kernel) rfl rfl, ⟨sm_getI (C := RX5) (T := TX5) (show decode _ _ = .ok (.getfield 24, 3) by decide +kernel) wd_132 inX5 rfl (by decide) rfl rfl (by decide) rfl, ⟨sm_iload_n (show decode _ _ = .ok (.iload_n 3, 1) by decide +kernel) rfl rfl, ⟨sm_iast (show decode _ _ = .ok (.iastore, 1) by decide +kernel) rfl, ⟨sm_aload_n (show decode _ _ = .ok (.aload_n 0, 1) by decide +kernel) rfl rfl, ⟨sm_dup (show decode _ _ = .ok (.dup, 1) by decide +kernel) rfl, ⟨sm_getI (C := RX5) (T := TX5) (show decode _ _ = .ok (.getfield 24, 3) by decide +kernel) wd_132 inX5 rfl (by decide) rfl rfl (by decide) rfl, ⟨sm_iconst (show decode _ _ = .ok (.iconst 1, 1) by decide +kernel) (by decide +kernel) rfl, ⟨sm_iadd (show decode _ _ = .ok (.iadd, 1) by decide +kernel) rfl, trivial⟩⟩⟩⟩⟩⟩⟩⟩⟩⟩
theorem tm_20_3 : ax_all1 (ax_Sim ax_ME false RX5 cX5_addWalk 4 (some FieldType.boolean)) 48 [some (a_putI 5 5 4 51), none, none, some (a_iconst 1 52), some (a_zret)] := ⟨sm_putI (C := RX5) (T := TX5) (show decode _ _ = .ok (.putfield 24, 3) by decide +kernel) wd_132 inX5 tyX5 tyX5_ok nmX5 rfl (by decide) rfl rfl (by decide) rfl (by decide +kernel) rfl, ⟨sm_iconst (show decode _ _ = .ok (.iconst 1, 1) by decide +kernel) (by decide +kernel) rfl, ⟨sm_zret (show decode _ _ = .ok (.ireturn, 1) by decide +kernel) rfl, trivial⟩⟩⟩
theorem tm_20 : ∀ (pc : Nat) (act : ax_Act), ax_row t_20 pc = some act → ax_Sim ax_ME false RX5 cX5_addWalk 4 (some FieldType.boolean) pc act := ax_row_all ⟨tm_20_0, ⟨tm_20_1, ⟨tm_20_2, ⟨tm_20_3, trivial⟩⟩⟩⟩
theorem tm_21_0 : ax_all1 (ax_Sim ax_ME false RX5 cX5_cellAfterWalks 7 (some FieldType.int)) 0 [some (a_iload 3 1), some (a_istore 4 3), none, some (a_iconst 6 5), none, some (a_istore 5 7), none, some (a_iconst 0 8), some (a_istore 6 10), none, some (a_iload 6 12), none, some (a_aload 0 13), some (a_getI 5 5 4 16), none, none] := ⟨sm_iload_n (show decode _ _ = .ok (.iload_n 3, 1) by decide +kernel) rfl rfl, ⟨sm_istore (show decode _ _ = .ok (.istore 4, 2) by decide +kernel) (by decide) rfl, ⟨sm_bipush (show decode _ _ = .ok (.bipush 6, 2) by decide +kernel) (by decide +kernel) rfl, ⟨sm_istore (show decode _ _ = .ok (.istore 5, 2) by decide +kernel) (by decide) rfl, ⟨sm_iconst (show decode _ _ = .ok (.iconst 0, 1) by decide +kernel) (by decide +kernel) rfl, ⟨sm_istore (show decode _ _ = .ok (.istore 6, 2) by decide +kernel) (by decide) rfl, ⟨sm_iload (show decode _ _ = .ok (.iload 6, 2) by decide +kernel) rfl, ⟨sm_aload_n (show decode _ _ = .ok (.aload_n 0, 1) by decide +kernel) rfl rfl, ⟨sm_getI (C := RX5) (T := TX5) (show decode _ _ = .ok (.getfield 24, 3) by decide +kernel) wd_132 inX5 rfl (by decide) rfl rfl (by decide) rfl, trivial⟩⟩⟩⟩⟩⟩⟩⟩⟩
theorem tm_21_1 : ax_all1 (ax_Sim ax_ME false RX5 cX5_cellAfterWalks 7 (some FieldType.int)) 16 [some (a_cge 77 19), none, none, some (a_aload 0 20), some (a_getR 5 5 1 23), none, none, some (a_iload 6 25), none, some (a_iald 26), some (a_iload 1 27), some (a_cne 71 30), none, none, some (a_aload 0 31), some (a_getR 5 5 2 34)] := ⟨sm_cge (show decode _ _ = .ok (.if_icmp .ge 61, 3) by decide +kernel) (by decide) rfl, ⟨sm_aload_n (show decode _ _ = .ok (.aload_n 0, 1) by decide +kernel) rfl rfl, ⟨sm_getR (C := RX5) (T := TX5) (show decode _ _ = .ok (.getfield 15, 3) by decide +kernel) wd_129 inX5 rfl (by decide) rfl rfl (by decide) rfl, ⟨sm_iload (show decode _ _ = .ok (.iload 6, 2) by decide +kernel) rfl, ⟨sm_iald (show decode _ _ = .ok (.iaload, 1) by decide +kernel) rfl, ⟨sm_iload_n (show decode _ _ = .ok (.iload_n 1, 1) by decide +kernel) rfl rfl, ⟨sm_cne (show decode _ _ = .ok (.if_icmp .ne 44, 3) by decide +kernel) (by decide) rfl, ⟨sm_aload_n (show decode _ _ = .ok (.aload_n 0, 1) by decide +kernel) rfl rfl, ⟨sm_getR (C := RX5) (T := TX5) (show decode _ _ = .ok (.getfield 18, 3) by decide +kernel) wd_130 inX5 rfl (by decide) rfl rfl (by decide) rfl, trivial⟩⟩⟩⟩⟩⟩⟩⟩⟩
theorem tm_21_2 : ax_all1 (ax_Sim ax_ME false RX5 cX5_cellAfterWalks 7 (some FieldType.int)) 32 [none, none, some (a_iload 6 36), none, some (a_iald 37), some (a_iload 2 38), some (a_cgt 71 41), none, none, some (a_aload 0 42), some (a_getR 5 5 2 45), none, none, some (a_iload 6 47), none, some (a_iald 48)] := ⟨sm_iload (show decode _ _ = .ok (.iload 6, 2) by decide +kernel) rfl, ⟨sm_iald (show decode _ _ = .ok (.iaload, 1) by decide +kernel) rfl, ⟨sm_iload_n (show decode _ _ = .ok (.iload_n 2, 1) by decide +kernel) rfl rfl, ⟨sm_cgt (show decode _ _ = .ok (.if_icmp .gt 33, 3) by decide +kernel) (by decide) rfl, ⟨sm_aload_n (show decode _ _ = .ok (.aload_n 0, 1) by decide +kernel) rfl rfl, ⟨sm_getR (C := RX5) (T := TX5) (show decode _ _ = .ok (.getfield 18, 3) by decide +kernel) wd_130 inX5 rfl (by decide) rfl rfl (by decide) rfl, ⟨sm_iload (show decode _ _ = .ok (.iload 6, 2) by decide +kernel) rfl, ⟨sm_iald (show decode _ _ = .ok (.iaload, 1) by decide +kernel) rfl, trivial⟩⟩⟩⟩⟩⟩⟩⟩
theorem tm_21_3 : ax_all1 (ax_Sim ax_ME false RX5 cX5_cellAfterWalks 7 (some FieldType.int)) 48 [some (a_iload 5 50), none, some (a_clt 71 53), none, none, some (a_aload 0 54), some (a_getR 5 5 2 57), none, none, some (a_iload 6 59), none, some (a_iald 60), some (a_istore 5 62), none, some (a_aload 0 63), some (a_getR 5 5 3 66)] := ⟨sm_iload (show decode _ _ = .ok (.iload 5, 2) by decide +kernel) rfl, ⟨sm_clt (show decode _ _ = .ok (.if_icmp .lt 21, 3) by decide +kernel) (by decide) rfl, ⟨sm_aload_n (show decode _ _ = .ok (.aload_n 0, 1) by decide +kernel) rfl rfl, ⟨sm_getR (C := RX5) (T := TX5) (show decode _ _ = .ok (.getfield 18, 3) by decide +kernel) wd_130 inX5 rfl (by decide) rfl rfl (by decide) rfl, ⟨sm_iload (show decode _ _ = .ok (.iload 6, 2) by decide +kernel) rfl, ⟨sm_iald (show decode _ _ = .ok (.iaload, 1) by decide +kernel) rfl, ⟨sm_istore (show decode _ _ = .ok (.istore 5, 2) by decide +kernel) (by decide) rfl, ⟨sm_aload_n (show decode _ _ = .ok (.aload_n 0, 1) by decide +kernel) rfl rfl, ⟨sm_getR (C := RX5) (T := TX5) (show decode _ _ = .ok (.getfield 21, 3) by decide +kernel) wd_131 inX5 rfl (by decide) rfl rfl (by decide) rfl, trivial⟩⟩⟩⟩⟩⟩⟩⟩⟩
theorem tm_21_4 : ax_all1 (ax_Sim ax_ME false RX5 cX5_cellAfterWalks 7 (some FieldType.int)) 64 [none, none, some (a_iload 6 68), none, some (a_iald 69), some (a_istore 4 71), none, some (a_iinc 6 1 74), none, none, some (a_goto 10), none, none, some (a_iload 4 79), none, some (a_iret)] := ⟨sm_iload (show decode _ _ = .ok (.iload 6, 2) by decide +kernel) rfl, ⟨sm_iald (show decode _ _ = .ok (.iaload, 1) by decide +kernel) rfl, ⟨sm_istore (show decode _ _ = .ok (.istore 4, 2) by decide +kernel) (by decide) rfl, ⟨sm_iinc (show decode _ _ = .ok (.iinc 6 1, 3) by decide +kernel) (by decide +kernel) (by decide) rfl, ⟨sm_goto (show decode _ _ = .ok (.goto (-64), 3) by decide +kernel) (by decide), ⟨sm_iload (show decode _ _ = .ok (.iload 4, 2) by decide +kernel) rfl, ⟨sm_iret (show decode _ _ = .ok (.ireturn, 1) by decide +kernel) rfl, trivial⟩⟩⟩⟩⟩⟩⟩
theorem tm_21 : ∀ (pc : Nat) (act : ax_Act), ax_row t_21 pc = some act → ax_Sim ax_ME false RX5 cX5_cellAfterWalks 7 (some FieldType.int) pc act := ax_row_all ⟨tm_21_0, ⟨tm_21_1, ⟨tm_21_2, ⟨tm_21_3, ⟨tm_21_4, trivial⟩⟩⟩⟩⟩
end
section
/-! simulation rows, printed -/
theorem tm_173_0 : ax_all1 (ax_Sim ax_ME false RJ6 cJ6_bitCount_0f7a4 1 (some FieldType.int)) 0 [some (a_iload 0 1), some (a_iload 0 2), some (a_iconst 1 3), some (a_iushr 4), some (a_iconst (1431655765) 7), none, none, some (a_iand 8), some (a_isub 9), some (a_istore 0 10), some (a_iload 0 11), some (a_iconst (858993459) 14), none, none, some (a_iand 15), some (a_iload 0 16)] := ⟨sm_iload_n (show decode _ _ = .ok (.iload_n 0, 1) by decide +kernel) rfl rfl, ⟨sm_iload_n (show decode _ _ = .ok (.iload_n 0, 1) by decide +kernel) rfl rfl, ⟨sm_iconst (show decode _ _ = .ok (.iconst 1, 1) by decide +kernel) (by decide +kernel) rfl, ⟨sm_iushr (show decode _ _ = .ok (.iushr, 1) by decide +kernel) rfl, ⟨sm_ldcw (show decode _ _ = .ok (.ldc_w 265, 3) by decide +kernel) wd_602 rfl, ⟨sm_iand (show decode _ _ = .ok (.iand, 1) by decide +kernel) rfl, ⟨sm_isub (show decode _ _ = .ok (.isub, 1) by decide +kernel) rfl, ⟨sm_istore_n (show decode _ _ = .ok (.istore_n 0, 1) by decide +kernel) rfl (by decide) rfl, ⟨sm_iload_n (show decode _ _ = .ok (.iload_n 0, 1) by decide +kernel) rfl rfl, ⟨sm_ldcw (show decode _ _ = .ok (.ldc_w 266, 3) by decide +kernel) wd_603 rfl, ⟨sm_iand (show decode _ _ = .ok (.iand, 1) by decide +kernel) rfl, ⟨sm_iload_n (show decode _ _ = .ok (.iload_n 0, 1) by decide +kernel) rfl rfl, trivial⟩⟩⟩⟩⟩⟩⟩⟩⟩⟩⟩⟩
theorem tm_173_1 : ax_all1 (ax_Sim ax_ME false RJ6 cJ6_bitCount_0f7a4 1 (some FieldType.int)) 16 [some (a_iconst 2 17), some (a_iushr 18), some (a_iconst (858993459) 21), none, none, some (a_iand 22), some (a_iadd 23), some (a_istore 0 24), some (a_iload 0 25), some (a_iload 0 26), some (a_iconst 4 27), some (a_iushr 28), some (a_iadd 29), some (a_iconst (252645135) 32), none, none] := ⟨sm_iconst (show decode _ _ = .ok (.iconst 2, 1) by decide +kernel) (by decide +kernel) rfl, ⟨sm_iushr (show decode _ _ = .ok (.iushr, 1) by decide +kernel) rfl, ⟨sm_ldcw (show decode _ _ = .ok (.ldc_w 266, 3) by decide +kernel) wd_603 rfl, ⟨sm_iand (show decode _ _ = .ok (.iand, 1) by decide +kernel) rfl, ⟨sm_iadd (show decode _ _ = .ok (.iadd, 1) by decide +kernel) rfl, ⟨sm_istore_n (show decode _ _ = .ok (.istore_n 0, 1) by decide +kernel) rfl (by decide) rfl, ⟨sm_iload_n (show decode _ _ = .ok (.iload_n 0, 1) by decide +kernel) rfl rfl, ⟨sm_iload_n (show decode _ _ = .ok (.iload_n 0, 1) by decide +kernel) rfl rfl, ⟨sm_iconst (show decode _ _ = .ok (.iconst 4, 1) by decide +kernel) (by decide +kernel) rfl, ⟨sm_iushr (show decode _ _ = .ok (.iushr, 1) by decide +kernel) rfl, ⟨sm_iadd (show decode _ _ = .ok (.iadd, 1) by decide +kernel) rfl, ⟨sm_ldcw (show decode _ _ = .ok (.ldc_w 267, 3) by decide +kernel) wd_604 rfl, trivial⟩⟩⟩⟩⟩⟩⟩⟩⟩⟩⟩⟩
theorem tm_173_2 : ax_all1 (ax_Sim ax_ME false RJ6 cJ6_bitCount_0f7a4 1 (some FieldType.int)) 32 [some (a_iand 33), some (a_istore 0 34), some (a_iload 0 35), some (a_iload 0 36), some (a_iconst 8 38), none, some (a_iushr 39), some (a_iadd 40), some (a_istore 0 41), some (a_iload 0 42), some (a_iload 0 43), some (a_iconst 16 45), none, some (a_iushr 46), some (a_iadd 47), some (a_istore 0 48)] := ⟨sm_iand (show decode _ _ = .ok (.iand, 1) by decide +kernel) rfl, ⟨sm_istore_n (show decode _ _ = .ok (.istore_n 0, 1) by decide +kernel) rfl (by decide) rfl, ⟨sm_iload_n (show decode _ _ = .ok (.iload_n 0, 1) by decide +kernel) rfl rfl, ⟨sm_iload_n (show decode _ _ = .ok (.iload_n 0, 1) by decide +kernel) rfl rfl, ⟨sm_bipush (show decode _ _ = .ok (.bipush 8, 2) by decide +kernel) (by decide +kernel) rfl, ⟨sm_iushr (show decode _ _ = .ok (.iushr, 1) by decide +kernel) rfl, ⟨sm_iadd (show decode _ _ = .ok (.iadd, 1) by decide +kernel) rfl, ⟨sm_istore_n (show decode _ _ = .ok (.istore_n 0, 1) by decide +kernel) rfl (by decide) rfl, ⟨sm_iload_n (show decode _ _ = .ok (.iload_n 0, 1) by decide +kernel) rfl rfl, ⟨sm_iload_n (show decode _ _ = .ok (.iload_n 0, 1) by decide +kernel) rfl rfl, ⟨sm_bipush (show decode _ _ = .ok (.bipush 16, 2) by decide +kernel) (by decide +kernel) rfl, ⟨sm_iushr (show decode _ _ = .ok (.iushr, 1) by decide +kernel) rfl, ⟨sm_iadd (show decode _ _ = .ok (.iadd, 1) by decide +kernel) rfl, ⟨sm_istore_n (show decode _ _ = .ok (.istore_n 0, 1) by decide +kernel) rfl (by decide) rfl, trivial⟩⟩⟩⟩⟩⟩⟩⟩⟩⟩⟩⟩⟩⟩
theorem tm_173_3 : ax_all1 (ax_Sim ax_ME false RJ6 cJ6_bitCount_0f7a4 1 (some FieldType.int)) 48 [some (a_iload 0 49), some (a_iconst 63 51), none, some (a_iand 52), some (a_iret)] := ⟨sm_iload_n (show decode _ _ = .ok (.iload_n 0, 1) by decide +kernel) rfl rfl, ⟨sm_bipush (show decode _ _ = .ok (.bipush 63, 2) by decide +kernel) (by decide +kernel) rfl, ⟨sm_iand (show decode _ _ = .ok (.iand, 1) by decide +kernel) rfl, ⟨sm_iret (show decode _ _ = .ok (.ireturn, 1) by decide +kernel) rfl, trivial⟩⟩⟩⟩
theorem tm_173 : ∀ (pc : Nat) (act : ax_Act), ax_row t_173 pc = some act → ax_Sim ax_ME false RJ6 cJ6_bitCount_0f7a4 1 (some FieldType.int) pc act := ax_row_all ⟨tm_173_0, ⟨tm_173_1, ⟨tm_173_2, ⟨tm_173_3, trivial⟩⟩⟩⟩
theorem tm_174_0 : ax_all1 (ax_Sim ax_ME false RJ9 cJ9_abs_0f7a4 1 (some FieldType.int)) 0 [some (a_iload 0 1), some (a_zge 9 4), none, none, some (a_iload 0 5), some (a_ineg 6), some (a_goto 10), none, none, some (a_iload 0 10), some (a_iret)] := ⟨sm_iload_n (show decode _ _ = .ok (.iload_n 0, 1) by decide +kernel) rfl rfl, ⟨sm_zge (show decode _ _ = .ok (.ifCond .ge 8, 3) by decide +kernel) (by decide) rfl, ⟨sm_iload_n (show decode _ _ = .ok (.iload_n 0, 1) by decide +kernel) rfl rfl, ⟨sm_ineg (show decode _ _ = .ok (.ineg, 1) by decide +kernel) rfl, ⟨sm_goto (show decode _ _ = .ok (.goto 4, 3) by decide +kernel) (by decide), ⟨sm_iload_n (show decode _ _ = .ok (.iload_n 0, 1) by decide +kernel) rfl rfl, ⟨sm_iret (show decode _ _ = .ok (.ireturn, 1) by decide +kernel) rfl, trivial⟩⟩⟩⟩⟩⟩⟩
theorem tm_174 : ∀ (pc : Nat) (act : ax_Act), ax_row t_174 pc = some act → ax_Sim ax_ME false RJ9 cJ9_abs_0f7a4 1 (some FieldType.int) pc act := ax_row_all ⟨tm_174_0, trivial⟩
theorem tm_175_0 : ax_all1 (ax_Sim ax_ME false RJ9 cJ9_max_7cf53 2 (some FieldType.int)) 0 [some (a_iload 0 1), some (a_iload 1 2), some (a_clt 9 5), none, none, some (a_iload 0 6), some (a_goto 10), none, none, some (a_iload 1 10), some (a_iret)] := ⟨sm_iload_n (show decode _ _ = .ok (.iload_n 0, 1) by decide +kernel) rfl rfl, ⟨sm_iload_n (show decode _ _ = .ok (.iload_n 1, 1) by decide +kernel) rfl rfl, ⟨sm_clt (show decode _ _ = .ok (.if_icmp .lt 7, 3) by decide +kernel) (by decide) rfl, ⟨sm_iload_n (show decode _ _ = .ok (.iload_n 0, 1) by decide +kernel) rfl rfl, ⟨sm_goto (show decode _ _ = .ok (.goto 4, 3) by decide +kernel) (by decide), ⟨sm_iload_n (show decode _ _ = .ok (.iload_n 1, 1) by decide +kernel) rfl rfl, ⟨sm_iret (show decode _ _ = .ok (.ireturn, 1) by decide +kernel) rfl, trivial⟩⟩⟩⟩⟩⟩⟩
theorem tm_175 : ∀ (pc : Nat) (act : ax_Act), ax_row t_175 pc = some act → ax_Sim ax_ME false RJ9 cJ9_max_7cf53 2 (some FieldType.int) pc act := ax_row_all ⟨tm_175_0, trivial⟩
theorem tm_176_0 : ax_all1 (ax_Sim ax_ME false RJ9 cJ9_min_7cf53 2 (some FieldType.int)) 0 [some (a_iload 0 1), some (a_iload 1 2), some (a_cgt 9 5), none, none, some (a_iload 0 6), some (a_goto 10), none, none, some (a_iload 1 10), some (a_iret)] := ⟨sm_iload_n (show decode _ _ = .ok (.iload_n 0, 1) by decide +kernel) rfl rfl, ⟨sm_iload_n (show decode _ _ = .ok (.iload_n 1, 1) by decide +kernel) rfl rfl, ⟨sm_cgt (show decode _ _ = .ok (.if_icmp .gt 7, 3) by decide +kernel) (by decide) rfl, ⟨sm_iload_n (show decode _ _ = .ok (.iload_n 0, 1) by decide +kernel) rfl rfl, ⟨sm_goto (show decode _ _ = .ok (.goto 4, 3) by decide +kernel) (by decide), ⟨sm_iload_n (show decode _ _ = .ok (.iload_n 1, 1) by decide +kernel) rfl rfl, ⟨sm_iret (show decode _ _ = .ok (.ireturn, 1) by decide +kernel) rfl, trivial⟩⟩⟩⟩⟩⟩⟩
theorem tm_176 : ∀ (pc : Nat) (act : ax_Act), ax_row t_176 pc = some act → ax_Sim ax_ME false RJ9 cJ9_min_7cf53 2 (some FieldType.int) pc act := ax_row_all ⟨tm_176_0, trivial⟩
theorem tm_law_0 : ax_all1 (ax_Sim ax_ME false RL cL_law 4 (some FieldType.boolean)) 0 [some (a_new 11 9 3), none, none, some (a_dup 4), some (a_callV 11 9 64 0 7), none, none, some (a_astore 1 8), some (a_new 12 38 11), none, none, some (a_dup 12), some (a_callV 12 38 102 0 15), none, none, some (a_astore 2 16)] := ⟨sm_new (C := RX11) (T := TX11) (show decode _ _ = .ok (.new 7, 3) by decide +kernel) wd_60 wd_61 wd_40 inX11 tyX11 tyX11_ok rfl (by decide) (by decide +kernel) rfl, ⟨sm_dup (show decode _ _ = .ok (.dup, 1) by decide +kernel) rfl, ⟨sm_callI (show decode _ _ = .ok (.invokespecial 9, 3) by decide +kernel) rfl wd_62 wd_63 wd_40 wd_64 rfl rfl ⟨by decide +kernel, by decide +kernel, by decide +kernel⟩ rfl, ⟨sm_astore_n (show decode _ _ = .ok (.astore_n 1, 1) by decide +kernel) rfl (by decide) rfl, ⟨sm_new (C := RX12) (T := TX12) (show decode _ _ = .ok (.new 10, 3) by decide +kernel) wd_811 wd_812 wd_56 inX12 tyX12 tyX12_ok rfl (by decide) (by decide +kernel) rfl, ⟨sm_dup (show decode _ _ = .ok (.dup, 1) by decide +kernel) rfl, ⟨sm_callI (show decode _ _ = .ok (.invokespecial 12, 3) by decide +kernel) rfl wd_813 wd_814 wd_56 wd_815 rfl rfl ⟨by decide +kernel, by decide +kernel, by decide +kernel⟩ rfl, ⟨sm_astore_n (show decode _ _ = .ok (.astore_n 2, 1) by decide +kernel) rfl (by decide) rfl, trivial⟩⟩⟩⟩⟩⟩⟩⟩
theorem tm_law_1 : ax_all1 (ax_Sim ax_ME false RL cL_law 4 (some FieldType.boolean)) 16 [some (a_iconst 0 17), some (a_istore 3 18), some (a_iload 3 19), some (a_aload 0 20), some (a_slen 21), some (a_iconst 6 23), none, some (a_isub 24), some (a_cgt 975 27), none, none, some (a_aload 0 28), some (a_iload 3 29), some (a_sald 30), some (a_iconst 31 32), none] := ⟨sm_iconst (show decode _ _ = .ok (.iconst 0, 1) by decide +kernel) (by decide +kernel) rfl, ⟨sm_istore_n (show decode _ _ = .ok (.istore_n 3, 1) by decide +kernel) rfl (by decide) rfl, ⟨sm_iload_n (show decode _ _ = .ok (.iload_n 3, 1) by decide +kernel) rfl rfl, ⟨sm_aload_n (show decode _ _ = .ok (.aload_n 0, 1) by decide +kernel) rfl rfl, ⟨sm_slen (show decode _ _ = .ok (.arraylength, 1) by decide +kernel) rfl, ⟨sm_bipush (show decode _ _ = .ok (.bipush 6, 2) by decide +kernel) (by decide +kernel) rfl, ⟨sm_isub (show decode _ _ = .ok (.isub, 1) by decide +kernel) rfl, ⟨sm_cgt (show decode _ _ = .ok (.if_icmp .gt 951, 3) by decide +kernel) (by decide) rfl, ⟨sm_aload_n (show decode _ _ = .ok (.aload_n 0, 1) by decide +kernel) rfl rfl, ⟨sm_iload_n (show decode _ _ = .ok (.iload_n 3, 1) by decide +kernel) rfl rfl, ⟨sm_sald (show decode _ _ = .ok (.iaload, 1) by decide +kernel) rfl, ⟨sm_bipush (show decode _ _ = .ok (.bipush 31, 2) by decide +kernel) (by decide +kernel) rfl, trivial⟩⟩⟩⟩⟩⟩⟩⟩⟩⟩⟩⟩
theorem tm_law_2 : ax_all1 (ax_Sim ax_ME false RL cL_law 4 (some FieldType.boolean)) 32 [some (a_iand 33), some (a_tsw 0 29 [168, 191, 204, 217, 230, 263, 296, 339, 372, 405, 438, 471, 514, 527, 550, 563, 606, 639, 652, 665, 688, 711, 734, 767, 800, 823, 887, 920, 933, 946] 969), none, none, none, none, none, none, none, none, none, none, none, none, none, none] := ⟨sm_iand (show decode _ _ = .ok (.iand, 1) by decide +kernel) rfl, ⟨sm_tsw (show decode _ _ = .ok (.tableswitch 936 0 29 #[135, 158, 171, 184, 197, 230, 263, 306, 339, 372, 405, 438, 481, 494, 517, 530, 573, 606, 619, 632, 655, 678, 701, 734, 767, 790, 854, 887, 900, 913], 135) by decide +kernel) (by decide +kernel) (by decide +kernel) (by decide +kernel), trivial⟩⟩
theorem tm_law_3 : ax_all1 (ax_Sim ax_ME false RL cL_law 4 (some FieldType.boolean)) 48 [none, none, none, none, none, none, none, none, none, none, none, none, none, none, none, none] := trivial
theorem tm_law_4 : ax_all1 (ax_Sim ax_ME false RL cL_law 4 (some FieldType.boolean)) 64 [none, none, none, none, none, none, none, none, none, none, none, none, none, none, none, none] := trivial
theorem tm_law_5 : ax_all1 (ax_Sim ax_ME false RL cL_law 4 (some FieldType.boolean)) 80 [none, none, none, none, none, none, none, none, none, none, none, none, none, none, none, none] := trivial
theorem tm_law_6 : ax_all1 (ax_Sim ax_ME false RL cL_law 4 (some FieldType.boolean)) 96 [none, none, none, none, none, none, none, none, none, none, none, none, none, none, none, none] := trivial
theorem tm_law_7 : ax_all1 (ax_Sim ax_ME false RL cL_law 4 (some FieldType.boolean)) 112 [none, none, none, none, none, none, none, none, none, none, none, none, none, none, none, none] := trivial
theorem tm_law_8 : ax_all1 (ax_Sim ax_ME false RL cL_law 4 (some FieldType.boolean)) 128 [none, none, none, none, none, none, none, none, none, none, none, none, none, none, none, none] := trivial
theorem tm_law_9 : ax_all1 (ax_Sim ax_ME false RL cL_law 4 (some FieldType.boolean)) 144 [none, none, none, none, none, none, none, none, none, none, none, none, none, none, none, none] := trivial
theorem tm_law_10 : ax_all1 (ax_Sim ax_ME false RL cL_law 4 (some FieldType.boolean)) 160 [none, none, none, none, none, none, none, none, some (a_aload 1 169), some (a_aload 0 170), some (a_iload 3 171), some (a_iconst 1 172), some (a_iadd 173), some (a_sald 174), some (a_callV 11 9 65 1 177), none] := ⟨sm_aload_n (show decode _ _ = .ok (.aload_n 1, 1) by decide +kernel) rfl rfl, ⟨sm_aload_n (show decode _ _ = .ok (.aload_n 0, 1) by decide +kernel) rfl rfl, ⟨sm_iload_n (show decode _ _ = .ok (.iload_n 3, 1) by decide +kernel) rfl rfl, ⟨sm_iconst (show decode _ _ = .ok (.iconst 1, 1) by decide +kernel) (by decide +kernel) rfl, ⟨sm_iadd (show decode _ _ = .ok (.iadd, 1) by decide +kernel) rfl, ⟨sm_sald (show decode _ _ = .ok (.iaload, 1) by decide +kernel) rfl, ⟨sm_callV (C := RX11) (T := TX11) (show decode _ _ = .ok (.invokevirtual 13, 3) by decide +kernel) rfl rfl (by decide) wd_496 wd_497 wd_40 wd_499 wd_498 ⟨by decide +kernel, by decide +kernel, by decide +kernel⟩ rfl, trivial⟩⟩⟩⟩⟩⟩⟩
theorem tm_law_11 : ax_all1 (ax_Sim ax_ME false RL cL_law 4 (some FieldType.boolean)) 176 [none, some (a_aload 2 178), some (a_aload 0 179), some (a_iload 3 180), some (a_iconst 1 181), some (a_iadd 182), some (a_sald 183), some (a_callV 12 38 109 1 186), none, none, some (a_ceq 969 189), none, none, some (a_iconst 0 190), some (a_zret), some (a_aload 1 192)] := ⟨sm_aload_n (show decode _ _ = .ok (.aload_n 2, 1) by decide +kernel) rfl rfl, ⟨sm_aload_n (show decode _ _ = .ok (.aload_n 0, 1) by decide +kernel) rfl rfl, ⟨sm_iload_n (show decode _ _ = .ok (.iload_n 3, 1) by decide +kernel) rfl rfl, ⟨sm_iconst (show decode _ _ = .ok (.iconst 1, 1) by decide +kernel) (by decide +kernel) rfl, ⟨sm_iadd (show decode _ _ = .ok (.iadd, 1) by decide +kernel) rfl, ⟨sm_sald (show decode _ _ = .ok (.iaload, 1) by decide +kernel) rfl, ⟨sm_callV (C := RX12) (T := TX12) (show decode _ _ = .ok (.invokevirtual 17, 3) by decide +kernel) rfl rfl (by decide) wd_935 wd_936 wd_56 wd_938 wd_937 ⟨by decide +kernel, by decide +kernel, by decide +kernel⟩ rfl, ⟨sm_ceq (show decode _ _ = .ok (.if_icmp .eq 783, 3) by decide +kernel) (by decide) rfl, ⟨sm_iconst (show decode _ _ = .ok (.iconst 0, 1) by decide +kernel) (by decide +kernel) rfl, ⟨sm_zret (show decode _ _ = .ok (.ireturn, 1) by decide +kernel) rfl, ⟨sm_aload_n (show decode _ _ = .ok (.aload_n 1, 1) by decide +kernel) rfl rfl, trivial⟩⟩⟩⟩⟩⟩⟩⟩⟩⟩⟩
theorem tm_law_12 : ax_all1 (ax_Sim ax_ME false RL cL_law 4 (some FieldType.boolean)) 192 [some (a_callV 11 9 66 0 195), none, none, some (a_aload 2 196), some (a_callV 12 38 110 0 199), none, none, some (a_ceq 969 202), none, none, some (a_iconst 0 203), some (a_zret), some (a_aload 1 205), some (a_callV 11 9 67 0 208), none, none] := ⟨sm_callV (C := RX11) (T := TX11) (show decode _ _ = .ok (.invokevirtual 18, 3) by decide +kernel) rfl rfl (by decide) wd_501 wd_502 wd_40 wd_504 wd_503 ⟨by decide +kernel, by decide +kernel, by decide +kernel⟩ rfl, ⟨sm_aload_n (show decode _ _ = .ok (.aload_n 2, 1) by decide +kernel) rfl rfl, ⟨sm_callV (C := RX12) (T := TX12) (show decode _ _ = .ok (.invokevirtual 22, 3) by decide +kernel) rfl rfl (by decide) wd_942 wd_943 wd_56 wd_945 wd_944 ⟨by decide +kernel, by decide +kernel, by decide +kernel⟩ rfl, ⟨sm_ceq (show decode _ _ = .ok (.if_icmp .eq 770, 3) by decide +kernel) (by decide) rfl, ⟨sm_iconst (show decode _ _ = .ok (.iconst 0, 1) by decide +kernel) (by decide +kernel) rfl, ⟨sm_zret (show decode _ _ = .ok (.ireturn, 1) by decide +kernel) rfl, ⟨sm_aload_n (show decode _ _ = .ok (.aload_n 1, 1) by decide +kernel) rfl rfl, ⟨sm_callV (C := RX11) (T := TX11) (show decode _ _ = .ok (.invokevirtual 23, 3) by decide +kernel) rfl rfl (by decide) wd_505 wd_506 wd_40 wd_508 wd_507 ⟨by decide +kernel, by decide +kernel, by decide +kernel⟩ rfl, trivial⟩⟩⟩⟩⟩⟩⟩⟩
theorem tm_law_13 : ax_all1 (ax_Sim ax_ME false RL cL_law 4 (some FieldType.boolean)) 208 [some (a_aload 2 209), some (a_callV 12 38 124 0 212), none, none, some (a_ceq 969 215), none, none, some (a_iconst 0 216), some (a_zret), some (a_aload 1 218), some (a_callV 11 9 68 0 221), none, none, some (a_aload 2 222), some (a_callV 12 38 125 0 225), none] := ⟨sm_aload_n (show decode _ _ = .ok (.aload_n 2, 1) by decide +kernel) rfl rfl, ⟨sm_callV (C := RX12) (T := TX12) (show decode _ _ = .ok (.invokevirtual 26, 3) by decide +kernel) rfl rfl (by decide) wd_946 wd_947 wd_56 wd_949 wd_948 ⟨by decide +kernel, by decide +kernel, by decide +kernel⟩ rfl, ⟨sm_ceq (show decode _ _ = .ok (.if_icmp .eq 757, 3) by decide +kernel) (by decide) rfl, ⟨sm_iconst (show decode _ _ = .ok (.iconst 0, 1) by decide +kernel) (by decide +kernel) rfl, ⟨sm_zret (show decode _ _ = .ok (.ireturn, 1) by decide +kernel) rfl, ⟨sm_aload_n (show decode _ _ = .ok (.aload_n 1, 1) by decide +kernel) rfl rfl, ⟨sm_callV (C := RX11) (T := TX11) (show decode _ _ = .ok (.invokevirtual 27, 3) by decide +kernel) rfl rfl (by decide) wd_509 wd_510 wd_40 wd_512 wd_511 ⟨by decide +kernel, by decide +kernel, by decide +kernel⟩ rfl, ⟨sm_aload_n (show decode _ _ = .ok (.aload_n 2, 1) by decide +kernel) rfl rfl, ⟨sm_callV (C := RX12) (T := TX12) (show decode _ _ = .ok (.invokevirtual 30, 3) by decide +kernel) rfl rfl (by decide) wd_1000 wd_1001 wd_56 wd_1003 wd_1002 ⟨by decide +kernel, by decide +kernel, by decide +kernel⟩ rfl, trivial⟩⟩⟩⟩⟩⟩⟩⟩⟩
theorem tm_law_14 : ax_all1 (ax_Sim ax_ME false RL cL_law 4 (some FieldType.boolean)) 224 [none, some (a_ceq 969 228), none, none, some (a_iconst 0 229), some (a_zret), some (a_aload 1 231), some (a_aload 0 232), some (a_iload 3 233), some (a_iconst 1 234), some (a_iadd 235), some (a_sald 236), some (a_aload 0 237), some (a_iload 3 238), some (a_iconst 2 239), some (a_iadd 240)] := ⟨sm_ceq (show decode _ _ = .ok (.if_icmp .eq 744, 3) by decide +kernel) (by decide) rfl, ⟨sm_iconst (show decode _ _ = .ok (.iconst 0, 1) by decide +kernel) (by decide +kernel) rfl, ⟨sm_zret (show decode _ _ = .ok (.ireturn, 1) by decide +kernel) rfl, ⟨sm_aload_n (show decode _ _ = .ok (.aload_n 1, 1) by decide +kernel) rfl rfl, ⟨sm_aload_n (show decode _ _ = .ok (.aload_n 0, 1) by decide +kernel) rfl rfl, ⟨sm_iload_n (show decode _ _ = .ok (.iload_n 3, 1) by decide +kernel) rfl rfl, ⟨sm_iconst (show decode _ _ = .ok (.iconst 1, 1) by decide +kernel) (by decide +kernel) rfl, ⟨sm_iadd (show decode _ _ = .ok (.iadd, 1) by decide +kernel) rfl, ⟨sm_sald (show decode _ _ = .ok (.iaload, 1) by decide +kernel) rfl, ⟨sm_aload_n (show decode _ _ = .ok (.aload_n 0, 1) by decide +kernel) rfl rfl, ⟨sm_iload_n (show decode _ _ = .ok (.iload_n 3, 1) by decide +kernel) rfl rfl, ⟨sm_iconst (show decode _ _ = .ok (.iconst 2, 1) by decide +kernel) (by decide +kernel) rfl, ⟨sm_iadd (show decode _ _ = .ok (.iadd, 1) by decide +kernel) rfl, trivial⟩⟩⟩⟩⟩⟩⟩⟩⟩⟩⟩⟩⟩
theorem tm_law_15 : ax_all1 (ax_Sim ax_ME false RL cL_law 4 (some FieldType.boolean)) 240 [some (a_sald 241), some (a_callV 11 9 69 2 244), none, none, some (a_aload 2 245), some (a_aload 0 246), some (a_iload 3 247), some (a_iconst 1 248), some (a_iadd 249), some (a_sald 250), some (a_aload 0 251), some (a_iload 3 252), some (a_iconst 2 253), some (a_iadd 254), some (a_sald 255), some (a_callV 12 38 133 2 258)] := ⟨sm_sald (show decode _ _ = .ok (.iaload, 1) by decide +kernel) rfl, ⟨sm_callV (C := RX11) (T := TX11) (show decode _ _ = .ok (.invokevirtual 31, 3) by decide +kernel) rfl rfl (by decide) wd_513 wd_514 wd_40 wd_516 wd_515 ⟨by decide +kernel, by decide +kernel, by decide +kernel⟩ rfl, ⟨sm_aload_n (show decode _ _ = .ok (.aload_n 2, 1) by decide +kernel) rfl rfl, ⟨sm_aload_n (show decode _ _ = .ok (.aload_n 0, 1) by decide +kernel) rfl rfl, ⟨sm_iload_n (show decode _ _ = .ok (.iload_n 3, 1) by decide +kernel) rfl rfl, ⟨sm_iconst (show decode _ _ = .ok (.iconst 1, 1) by decide +kernel) (by decide +kernel) rfl, ⟨sm_iadd (show decode _ _ = .ok (.iadd, 1) by decide +kernel) rfl, ⟨sm_sald (show decode _ _ = .ok (.iaload, 1) by decide +kernel) rfl, ⟨sm_aload_n (show decode _ _ = .ok (.aload_n 0, 1) by decide +kernel) rfl rfl, ⟨sm_iload_n (show decode _ _ = .ok (.iload_n 3, 1) by decide +kernel) rfl rfl, ⟨sm_iconst (show decode _ _ = .ok (.iconst 2, 1) by decide +kernel) (by decide +kernel) rfl, ⟨sm_iadd (show decode _ _ = .ok (.iadd, 1) by decide +kernel) rfl, ⟨sm_sald (show decode _ _ = .ok (.iaload, 1) by decide +kernel) rfl, ⟨sm_callV (C := RX12) (T := TX12) (show decode _ _ = .ok (.invokevirtual 35, 3) by decide +kernel) rfl rfl (by decide) wd_1005 wd_1006 wd_56 wd_1008 wd_1007 ⟨by decide +kernel, by decide +kernel, by decide +kernel⟩ rfl, trivial⟩⟩⟩⟩⟩⟩⟩⟩⟩⟩⟩⟩⟩⟩
theorem tm_law_16 : ax_all1 (ax_Sim ax_ME false RL cL_law 4 (some FieldType.boolean)) 256 [none, none, some (a_ceq 969 261), none, none, some (a_iconst 0 262), some (a_zret), some (a_aload 1 264), some (a_aload 0 265), some (a_iload 3 266), some (a_iconst 1 267), some (a_iadd 268), some (a_sald 269), some (a_aload 0 270), some (a_iload 3 271), some (a_iconst 2 272)] := ⟨sm_ceq (show decode _ _ = .ok (.if_icmp .eq 711, 3) by decide +kernel) (by decide) rfl, ⟨sm_iconst (show decode _ _ = .ok (.iconst 0, 1) by decide +kernel) (by decide +kernel) rfl, ⟨sm_zret (show decode _ _ = .ok (.ireturn, 1) by decide +kernel) rfl, ⟨sm_aload_n (show decode _ _ = .ok (.aload_n 1, 1) by decide +kernel) rfl rfl, ⟨sm_aload_n (show decode _ _ = .ok (.aload_n 0, 1) by decide +kernel) rfl rfl, ⟨sm_iload_n (show decode _ _ = .ok (.iload_n 3, 1) by decide +kernel) rfl rfl, ⟨sm_iconst (show decode _ _ = .ok (.iconst 1, 1) by decide +kernel) (by decide +kernel) rfl, ⟨sm_iadd (show decode _ _ = .ok (.iadd, 1) by decide +kernel) rfl, ⟨sm_sald (show decode _ _ = .ok (.iaload, 1) by decide +kernel) rfl, ⟨sm_aload_n (show decode _ _ = .ok (.aload_n 0, 1) by decide +kernel) rfl rfl, ⟨sm_iload_n (show decode _ _ = .ok (.iload_n 3, 1) by decide +kernel) rfl rfl, ⟨sm_iconst (show decode _ _ = .ok (.iconst 2, 1) by decide +kernel) (by decide +kernel) rfl, trivial⟩⟩⟩⟩⟩⟩⟩⟩⟩⟩⟩⟩
theorem tm_law_17 : ax_all1 (ax_Sim ax_ME false RL cL_law 4 (some FieldType.boolean)) 272 [some (a_iadd 273), some (a_sald 274), some (a_callV 11 9 70 2 277), none, none, some (a_aload 2 278), some (a_aload 0 279), some (a_iload 3 280), some (a_iconst 1 281), some (a_iadd 282), some (a_sald 283), some (a_aload 0 284), some (a_iload 3 285), some (a_iconst 2 286), some (a_iadd 287), some (a_sald 288)] := ⟨sm_iadd (show decode _ _ = .ok (.iadd, 1) by decide +kernel) rfl, ⟨sm_sald (show decode _ _ = .ok (.iaload, 1) by decide +kernel) rfl, ⟨sm_callV (C := RX11) (T := TX11) (show decode _ _ = .ok (.invokevirtual 36, 3) by decide +kernel) rfl rfl (by decide) wd_521 wd_522 wd_40 wd_524 wd_523 ⟨by decide +kernel, by decide +kernel, by decide +kernel⟩ rfl, ⟨sm_aload_n (show decode _ _ = .ok (.aload_n 2, 1) by decide +kernel) rfl rfl, ⟨sm_aload_n (show decode _ _ = .ok (.aload_n 0, 1) by decide +kernel) rfl rfl, ⟨sm_iload_n (show decode _ _ = .ok (.iload_n 3, 1) by decide +kernel) rfl rfl, ⟨sm_iconst (show decode _ _ = .ok (.iconst 1, 1) by decide +kernel) (by decide +kernel) rfl, ⟨sm_iadd (show decode _ _ = .ok (.iadd, 1) by decide +kernel) rfl, ⟨sm_sald (show decode _ _ = .ok (.iaload, 1) by decide +kernel) rfl, ⟨sm_aload_n (show decode _ _ = .ok (.aload_n 0, 1) by decide +kernel) rfl rfl, ⟨sm_iload_n (show decode _ _ = .ok (.iload_n 3, 1) by decide +kernel) rfl rfl, ⟨sm_iconst (show decode _ _ = .ok (.iconst 2, 1) by decide +kernel) (by decide +kernel) rfl, ⟨sm_iadd (show decode _ _ = .ok (.iadd, 1) by decide +kernel) rfl, ⟨sm_sald (show decode _ _ = .ok (.iaload, 1) by decide +kernel) rfl, trivial⟩⟩⟩⟩⟩⟩⟩⟩⟩⟩⟩⟩⟩⟩
theorem tm_law_18 : ax_all1 (ax_Sim ax_ME false RL cL_law 4 (some FieldType.boolean)) 288 [some (a_callV 12 38 134 2 291), none, none, some (a_ceq 969 294), none, none, some (a_iconst 0 295), some (a_zret), some (a_aload 1 297), some (a_aload 0 298), some (a_iload 3 299), some (a_iconst 1 300), some (a_iadd 301), some (a_sald 302), some (a_aload 0 303), some (a_iload 3 304)] := ⟨sm_callV (C := RX12) (T := TX12) (show decode _ _ = .ok (.invokevirtual 39, 3) by decide +kernel) rfl rfl (by decide) wd_1013 wd_1014 wd_56 wd_1016 wd_1015 ⟨by decide +kernel, by decide +kernel, by decide +kernel⟩ rfl, ⟨sm_ceq (show decode _ _ = .ok (.if_icmp .eq 678, 3) by decide +kernel) (by decide) rfl, ⟨sm_iconst (show decode _ _ = .ok (.iconst 0, 1) by decide +kernel) (by decide +kernel) rfl, ⟨sm_zret (show decode _ _ = .ok (.ireturn, 1) by decide +kernel) rfl, ⟨sm_aload_n (show decode _ _ = .ok (.aload_n 1, 1) by decide +kernel) rfl rfl, ⟨sm_aload_n (show decode _ _ = .ok (.aload_n 0, 1) by decide +kernel) rfl rfl, ⟨sm_iload_n (show decode _ _ = .ok (.iload_n 3, 1) by decide +kernel) rfl rfl, ⟨sm_iconst (show decode _ _ = .ok (.iconst 1, 1) by decide +kernel) (by decide +kernel) rfl, ⟨sm_iadd (show decode _ _ = .ok (.iadd, 1) by decide +kernel) rfl, ⟨sm_sald (show decode _ _ = .ok (.iaload, 1) by decide +kernel) rfl, ⟨sm_aload_n (show decode _ _ = .ok (.aload_n 0, 1) by decide +kernel) rfl rfl, ⟨sm_iload_n (show decode _ _ = .ok (.iload_n 3, 1) by decide +kernel) rfl rfl, trivial⟩⟩⟩⟩⟩⟩⟩⟩⟩⟩⟩⟩
theorem tm_law_19 : ax_all1 (ax_Sim ax_ME false RL cL_law 4 (some FieldType.boolean)) 304 [some (a_iconst 2 305), some (a_iadd 306), some (a_sald 307), some (a_aload 0 308), some (a_iload 3 309), some (a_iconst 3 310), some (a_iadd 311), some (a_sald 312), some (a_callV 11 9 71 3 315), none, none, some (a_aload 2 316), some (a_aload 0 317), some (a_iload 3 318), some (a_iconst 1 319), some (a_iadd 320)] := ⟨sm_iconst (show decode _ _ = .ok (.iconst 2, 1) by decide +kernel) (by decide +kernel) rfl, ⟨sm_iadd (show decode _ _ = .ok (.iadd, 1) by decide +kernel) rfl, ⟨sm_sald (show decode _ _ = .ok (.iaload, 1) by decide +kernel) rfl, ⟨sm_aload_n (show decode _ _ = .ok (.aload_n 0, 1) by decide +kernel) rfl rfl, ⟨sm_iload_n (show decode _ _ = .ok (.iload_n 3, 1) by decide +kernel) rfl rfl, ⟨sm_iconst (show decode _ _ = .ok (.iconst 3, 1) by decide +kernel) (by decide +kernel) rfl, ⟨sm_iadd (show decode _ _ = .ok (.iadd, 1) by decide +kernel) rfl, ⟨sm_sald (show decode _ _ = .ok (.iaload, 1) by decide +kernel) rfl, ⟨sm_callV (C := RX11) (T := TX11) (show decode _ _ = .ok (.invokevirtual 40, 3) by decide +kernel) rfl rfl (by decide) wd_534 wd_535 wd_40 wd_537 wd_536 ⟨by decide +kernel, by decide +kernel, by decide +kernel⟩ rfl, ⟨sm_aload_n (show decode _ _ = .ok (.aload_n 2, 1) by decide +kernel) rfl rfl, ⟨sm_aload_n (show decode _ _ = .ok (.aload_n 0, 1) by decide +kernel) rfl rfl, ⟨sm_iload_n (show decode _ _ = .ok (.iload_n 3, 1) by decide +kernel) rfl rfl, ⟨sm_iconst (show decode _ _ = .ok (.iconst 1, 1) by decide +kernel) (by decide +kernel) rfl, ⟨sm_iadd (show decode _ _ = .ok (.iadd, 1) by decide +kernel) rfl, trivial⟩⟩⟩⟩⟩⟩⟩⟩⟩⟩⟩⟩⟩⟩
theorem tm_law_20 : ax_all1 (ax_Sim ax_ME false RL cL_law 4 (some FieldType.boolean)) 320 [some (a_sald 321), some (a_aload 0 322), some (a_iload 3 323), some (a_iconst 2 324), some (a_iadd 325), some (a_sald 326), some (a_aload 0 327), some (a_iload 3 328), some (a_iconst 3 329), some (a_iadd 330), some (a_sald 331), some (a_callV 12 38 135 3 334), none, none, some (a_ceq 969 337), none] := ⟨sm_sald (show decode _ _ = .ok (.iaload, 1) by decide +kernel) rfl, ⟨sm_aload_n (show decode _ _ = .ok (.aload_n 0, 1) by decide +kernel) rfl rfl, ⟨sm_iload_n (show decode _ _ = .ok (.iload_n 3, 1) by decide +kernel) rfl rfl, ⟨sm_iconst (show decode _ _ = .ok (.iconst 2, 1) by decide +kernel) (by decide +kernel) rfl, ⟨sm_iadd (show decode _ _ = .ok (.iadd, 1) by decide +kernel) rfl, ⟨sm_sald (show decode _ _ = .ok (.iaload, 1) by decide +kernel) rfl, ⟨sm_aload_n (show decode _ _ = .ok (.aload_n 0, 1) by decide +kernel) rfl rfl, ⟨sm_iload_n (show decode _ _ = .ok (.iload_n 3, 1) by decide +kernel) rfl rfl, ⟨sm_iconst (show decode _ _ = .ok (.iconst 3, 1) by decide +kernel) (by decide +kernel) rfl, ⟨sm_iadd (show decode _ _ = .ok (.iadd, 1) by decide +kernel) rfl, ⟨sm_sald (show decode _ _ = .ok (.iaload, 1) by decide +kernel) rfl, ⟨sm_callV (C := RX12) (T := TX12) (show decode _ _ = .ok (.invokevirtual 44, 3) by decide +kernel) rfl rfl (by decide) wd_1024 wd_1025 wd_56 wd_1027 wd_1026 ⟨by decide +kernel, by decide +kernel, by decide +kernel⟩ rfl, ⟨sm_ceq (show decode _ _ = .ok (.if_icmp .eq 635, 3) by decide +kernel) (by decide) rfl, trivial⟩⟩⟩⟩⟩⟩⟩⟩⟩⟩⟩⟩⟩
theorem tm_law_21 : ax_all1 (ax_Sim ax_ME false RL cL_law 4 (some FieldType.boolean)) 336 [none, some (a_iconst 0 338), some (a_zret), some (a_aload 1 340), some (a_aload 0 341), some (a_iload 3 342), some (a_iconst 1 343), some (a_iadd 344), some (a_sald 345), some (a_aload 0 346), some (a_iload 3 347), some (a_iconst 2 348), some (a_iadd 349), some (a_sald 350), some (a_callV 11 9 72 2 353), none] := ⟨sm_iconst (show decode _ _ = .ok (.iconst 0, 1) by decide +kernel) (by decide +kernel) rfl, ⟨sm_zret (show decode _ _ = .ok (.ireturn, 1) by decide +kernel) rfl, ⟨sm_aload_n (show decode _ _ = .ok (.aload_n 1, 1) by decide +kernel) rfl rfl, ⟨sm_aload_n (show decode _ _ = .ok (.aload_n 0, 1) by decide +kernel) rfl rfl, ⟨sm_iload_n (show decode _ _ = .ok (.iload_n 3, 1) by decide +kernel) rfl rfl, ⟨sm_iconst (show decode _ _ = .ok (.iconst 1, 1) by decide +kernel) (by decide +kernel) rfl, ⟨sm_iadd (show decode _ _ = .ok (.iadd, 1) by decide +kernel) rfl, ⟨sm_sald (show decode _ _ = .ok (.iaload, 1) by decide +kernel) rfl, ⟨sm_aload_n (show decode _ _ = .ok (.aload_n 0, 1) by decide +kernel) rfl rfl, ⟨sm_iload_n (show decode _ _ = .ok (.iload_n 3, 1) by decide +kernel) rfl rfl, ⟨sm_iconst (show decode _ _ = .ok (.iconst 2, 1) by decide +kernel) (by decide +kernel) rfl, ⟨sm_iadd (show decode _ _ = .ok (.iadd, 1) by decide +kernel) rfl, ⟨sm_sald (show decode _ _ = .ok (.iaload, 1) by decide +kernel) rfl, ⟨sm_callV (C := RX11) (T := TX11) (show decode _ _ = .ok (.invokevirtual 45, 3) by decide +kernel) rfl rfl (by decide) wd_570 wd_571 wd_40 wd_573 wd_572 ⟨by decide +kernel, by decide +kernel, by decide +kernel⟩ rfl, trivial⟩⟩⟩⟩⟩⟩⟩⟩⟩⟩⟩⟩⟩⟩
theorem tm_law_22 : ax_all1 (ax_Sim ax_ME false RL cL_law 4 (some FieldType.boolean)) 352 [none, some (a_aload 2 354), some (a_aload 0 355), some (a_iload 3 356), some (a_iconst 1 357), some (a_iadd 358), some (a_sald 359), some (a_aload 0 360), some (a_iload 3 361), some (a_iconst 2 362), some (a_iadd 363), some (a_sald 364), some (a_callV 12 38 136 2 367), none, none, some (a_ceq 969 370)] := ⟨sm_aload_n (show decode _ _ = .ok (.aload_n 2, 1) by decide +kernel) rfl rfl, ⟨sm_aload_n (show decode _ _ = .ok (.aload_n 0, 1) by decide +kernel) rfl rfl, ⟨sm_iload_n (show decode _ _ = .ok (.iload_n 3, 1) by decide +kernel) rfl rfl, ⟨sm_iconst (show decode _ _ = .ok (.iconst 1, 1) by decide +kernel) (by decide +kernel) rfl, ⟨sm_iadd (show decode _ _ = .ok (.iadd, 1) by decide +kernel) rfl, ⟨sm_sald (show decode _ _ = .ok (.iaload, 1) by decide +kernel) rfl, ⟨sm_aload_n (show decode _ _ = .ok (.aload_n 0, 1) by decide +kernel) rfl rfl, ⟨sm_iload_n (show decode _ _ = .ok (.iload_n 3, 1) by decide +kernel) rfl rfl, ⟨sm_iconst (show decode _ _ = .ok (.iconst 2, 1) by decide +kernel) (by decide +kernel) rfl, ⟨sm_iadd (show decode _ _ = .ok (.iadd, 1) by decide +kernel) rfl, ⟨sm_sald (show decode _ _ = .ok (.iaload, 1) by decide +kernel) rfl, ⟨sm_callV (C := RX12) (T := TX12) (show decode _ _ = .ok (.invokevirtual 48, 3) by decide +kernel) rfl rfl (by decide) wd_1048 wd_1049 wd_56 wd_1051 wd_1050 ⟨by decide +kernel, by decide +kernel, by decide +kernel⟩ rfl, ⟨sm_ceq (show decode _ _ = .ok (.if_icmp .eq 602, 3) by decide +kernel) (by decide) rfl, trivial⟩⟩⟩⟩⟩⟩⟩⟩⟩⟩⟩⟩⟩
theorem tm_law_23 : ax_all1 (ax_Sim ax_ME false RL cL_law 4 (some FieldType.boolean)) 368 [none, none, some (a_iconst 0 371), some (a_zret), some (a_aload 1 373), some (a_aload 0 374), some (a_iload 3 375), some (a_iconst 1 376), some (a_iadd 377), some (a_sald 378), some (a_aload 0 379), some (a_iload 3 380), some (a_iconst 2 381), some (a_iadd 382), some (a_sald 383), some (a_callV 11 9 73 2 386)] := ⟨sm_iconst (show decode _ _ = .ok (.iconst 0, 1) by decide +kernel) (by decide +kernel) rfl, ⟨sm_zret (show decode _ _ = .ok (.ireturn, 1) by decide +kernel) rfl, ⟨sm_aload_n (show decode _ _ = .ok (.aload_n 1, 1) by decide +kernel) rfl rfl, ⟨sm_aload_n (show decode _ _ = .ok (.aload_n 0, 1) by decide +kernel) rfl rfl, ⟨sm_iload_n (show decode _ _ = .ok (.iload_n 3, 1) by decide +kernel) rfl rfl, ⟨sm_iconst (show decode _ _ = .ok (.iconst 1, 1) by decide +kernel) (by decide +kernel) rfl, ⟨sm_iadd (show decode _ _ = .ok (.iadd, 1) by decide +kernel) rfl, ⟨sm_sald (show decode _ _ = .ok (.iaload, 1) by decide +kernel) rfl, ⟨sm_aload_n (show decode _ _ = .ok (.aload_n 0, 1) by decide +kernel) rfl rfl, ⟨sm_iload_n (show decode _ _ = .ok (.iload_n 3, 1) by decide +kernel) rfl rfl, ⟨sm_iconst (show decode _ _ = .ok (.iconst 2, 1) by decide +kernel) (by decide +kernel) rfl, ⟨sm_iadd (show decode _ _ = .ok (.iadd, 1) by decide +kernel) rfl, ⟨sm_sald (show decode _ _ = .ok (.iaload, 1) by decide +kernel) rfl, ⟨sm_callV (C := RX11) (T := TX11) (show decode _ _ = .ok (.invokevirtual 49, 3) by decide +kernel) rfl rfl (by decide) wd_579 wd_580 wd_40 wd_582 wd_581 ⟨by decide +kernel, by decide +kernel, by decide +kernel⟩ rfl, trivial⟩⟩⟩⟩⟩⟩⟩⟩⟩⟩⟩⟩⟩⟩
theorem tm_law_24 : ax_all1 (ax_Sim ax_ME false RL cL_law 4 (some FieldType.boolean)) 384 [none, none, some (a_aload 2 387), some (a_aload 0 388), some (a_iload 3 389), some (a_iconst 1 390), some (a_iadd 391), some (a_sald 392), some (a_aload 0 393), some (a_iload 3 394), some (a_iconst 2 395), some (a_iadd 396), some (a_sald 397), some (a_callV 12 38 139 2 400), none, none] := ⟨sm_aload_n (show decode _ _ = .ok (.aload_n 2, 1) by decide +kernel) rfl rfl, ⟨sm_aload_n (show decode _ _ = .ok (.aload_n 0, 1) by decide +kernel) rfl rfl, ⟨sm_iload_n (show decode _ _ = .ok (.iload_n 3, 1) by decide +kernel) rfl rfl, ⟨sm_iconst (show decode _ _ = .ok (.iconst 1, 1) by decide +kernel) (by decide +kernel) rfl, ⟨sm_iadd (show decode _ _ = .ok (.iadd, 1) by decide +kernel) rfl, ⟨sm_sald (show decode _ _ = .ok (.iaload, 1) by decide +kernel) rfl, ⟨sm_aload_n (show decode _ _ = .ok (.aload_n 0, 1) by decide +kernel) rfl rfl, ⟨sm_iload_n (show decode _ _ = .ok (.iload_n 3, 1) by decide +kernel) rfl rfl, ⟨sm_iconst (show decode _ _ = .ok (.iconst 2, 1) by decide +kernel) (by decide +kernel) rfl, ⟨sm_iadd (show decode _ _ = .ok (.iadd, 1) by decide +kernel) rfl, ⟨sm_sald (show decode _ _ = .ok (.iaload, 1) by decide +kernel) rfl, ⟨sm_callV (C := RX12) (T := TX12) (show decode _ _ = .ok (.invokevirtual 52, 3) by decide +kernel) rfl rfl (by decide) wd_1055 wd_1056 wd_56 wd_1058 wd_1057 ⟨by decide +kernel, by decide +kernel, by decide +kernel⟩ rfl, trivial⟩⟩⟩⟩⟩⟩⟩⟩⟩⟩⟩⟩
theorem tm_law_25 : ax_all1 (ax_Sim ax_ME false RL cL_law 4 (some FieldType.boolean)) 400 [some (a_ceq 969 403), none, none, some (a_iconst 0 404), some (a_zret), some (a_aload 1 406), some (a_aload 0 407), some (a_iload 3 408), some (a_iconst 1 409), some (a_iadd 410), some (a_sald 411), some (a_aload 0 412), some (a_iload 3 413), some (a_iconst 2 414), some (a_iadd 415), some (a_sald 416)] := ⟨sm_ceq (show decode _ _ = .ok (.if_icmp .eq 569, 3) by decide +kernel) (by decide) rfl, ⟨sm_iconst (show decode _ _ = .ok (.iconst 0, 1) by decide +kernel) (by decide +kernel) rfl, ⟨sm_zret (show decode _ _ = .ok (.ireturn, 1) by decide +kernel) rfl, ⟨sm_aload_n (show decode _ _ = .ok (.aload_n 1, 1) by decide +kernel) rfl rfl, ⟨sm_aload_n (show decode _ _ = .ok (.aload_n 0, 1) by decide +kernel) rfl rfl, ⟨sm_iload_n (show decode _ _ = .ok (.iload_n 3, 1) by decide +kernel) rfl rfl, ⟨sm_iconst (show decode _ _ = .ok (.iconst 1, 1) by decide +kernel) (by decide +kernel) rfl, ⟨sm_iadd (show decode _ _ = .ok (.iadd, 1) by decide +kernel) rfl, ⟨sm_sald (show decode _ _ = .ok (.iaload, 1) by decide +kernel) rfl, ⟨sm_aload_n (show decode _ _ = .ok (.aload_n 0, 1) by decide +kernel) rfl rfl, ⟨sm_iload_n (show decode _ _ = .ok (.iload_n 3, 1) by decide +kernel) rfl rfl, ⟨sm_iconst (show decode _ _ = .ok (.iconst 2, 1) by decide +kernel) (by decide +kernel) rfl, ⟨sm_iadd (show decode _ _ = .ok (.iadd, 1) by decide +kernel) rfl, ⟨sm_sald (show decode _ _ = .ok (.iaload, 1) by decide +kernel) rfl, trivial⟩⟩⟩⟩⟩⟩⟩⟩⟩⟩⟩⟩⟩⟩
theorem tm_law_26 : ax_all1 (ax_Sim ax_ME false RL cL_law 4 (some FieldType.boolean)) 416 [some (a_callV 11 9 74 2 419), none, none, some (a_aload 2 420), some (a_aload 0 421), some (a_iload 3 422), some (a_iconst 1 423), some (a_iadd 424), some (a_sald 425), some (a_aload 0 426), some (a_iload 3 427), some (a_iconst 2 428), some (a_iadd 429), some (a_sald 430), some (a_callV 12 38 140 2 433), none] := ⟨sm_callV (C := RX11) (T := TX11) (show decode _ _ = .ok (.invokevirtual 53, 3) by decide +kernel) rfl rfl (by decide) wd_595 wd_596 wd_40 wd_598 wd_597 ⟨by decide +kernel, by decide +kernel, by decide +kernel⟩ rfl, ⟨sm_aload_n (show decode _ _ = .ok (.aload_n 2, 1) by decide +kernel) rfl rfl, ⟨sm_aload_n (show decode _ _ = .ok (.aload_n 0, 1) by decide +kernel) rfl rfl, ⟨sm_iload_n (show decode _ _ = .ok (.iload_n 3, 1) by decide +kernel) rfl rfl, ⟨sm_iconst (show decode _ _ = .ok (.iconst 1, 1) by decide +kernel) (by decide +kernel) rfl, ⟨sm_iadd (show decode _ _ = .ok (.iadd, 1) by decide +kernel) rfl, ⟨sm_sald (show decode _ _ = .ok (.iaload, 1) by decide +kernel) rfl, ⟨sm_aload_n (show decode _ _ = .ok (.aload_n 0, 1) by decide +kernel) rfl rfl, ⟨sm_iload_n (show decode _ _ = .ok (.iload_n 3, 1) by decide +kernel) rfl rfl, ⟨sm_iconst (show decode _ _ = .ok (.iconst 2, 1) by decide +kernel) (by decide +kernel) rfl, ⟨sm_iadd (show decode _ _ = .ok (.iadd, 1) by decide +kernel) rfl, ⟨sm_sald (show decode _ _ = .ok (.iaload, 1) by decide +kernel) rfl, ⟨sm_callV (C := RX12) (T := TX12) (show decode _ _ = .ok (.invokevirtual 56, 3) by decide +kernel) rfl rfl (by decide) wd_1067 wd_1068 wd_56 wd_1070 wd_1069 ⟨by decide +kernel, by decide +kernel, by decide +kernel⟩ rfl, trivial⟩⟩⟩⟩⟩⟩⟩⟩⟩⟩⟩⟩⟩
theorem tm_law_27 : ax_all1 (ax_Sim ax_ME false RL cL_law 4 (some FieldType.boolean)) 432 [none, some (a_ceq 969 436), none, none, some (a_iconst 0 437), some (a_zret), some (a_aload 1 439), some (a_aload 0 440), some (a_iload 3 441), some (a_iconst 1 442), some (a_iadd 443), some (a_sald 444), some (a_aload 0 445), some (a_iload 3 446), some (a_iconst 2 447), some (a_iadd 448)] := ⟨sm_ceq (show decode _ _ = .ok (.if_icmp .eq 536, 3) by decide +kernel) (by decide) rfl, ⟨sm_iconst (show decode _ _ = .ok (.iconst 0, 1) by decide +kernel) (by decide +kernel) rfl, ⟨sm_zret (show decode _ _ = .ok (.ireturn, 1) by decide +kernel) rfl, ⟨sm_aload_n (show decode _ _ = .ok (.aload_n 1, 1) by decide +kernel) rfl rfl, ⟨sm_aload_n (show decode _ _ = .ok (.aload_n 0, 1) by decide +kernel) rfl rfl, ⟨sm_iload_n (show decode _ _ = .ok (.iload_n 3, 1) by decide +kernel) rfl rfl, ⟨sm_iconst (show decode _ _ = .ok (.iconst 1, 1) by decide +kernel) (by decide +kernel) rfl, ⟨sm_iadd (show decode _ _ = .ok (.iadd, 1) by decide +kernel) rfl, ⟨sm_sald (show decode _ _ = .ok (.iaload, 1) by decide +kernel) rfl, ⟨sm_aload_n (show decode _ _ = .ok (.aload_n 0, 1) by decide +kernel) rfl rfl, ⟨sm_iload_n (show decode _ _ = .ok (.iload_n 3, 1) by decide +kernel) rfl rfl, ⟨sm_iconst (show decode _ _ = .ok (.iconst 2, 1) by decide +kernel) (by decide +kernel) rfl, ⟨sm_iadd (show decode _ _ = .ok (.iadd, 1) by decide +kernel) rfl, trivial⟩⟩⟩⟩⟩⟩⟩⟩⟩⟩⟩⟩⟩
theorem tm_law_28 : ax_all1 (ax_Sim ax_ME false RL cL_law 4 (some FieldType.boolean)) 448 [some (a_sald 449), some (a_callV 11 9 75 2 452), none, none, some (a_aload 2 453), some (a_aload 0 454), some (a_iload 3 455), some (a_iconst 1 456), some (a_iadd 457), some (a_sald 458), some (a_aload 0 459), some (a_iload 3 460), some (a_iconst 2 461), some (a_iadd 462), some (a_sald 463), some (a_callV 12 38 142 2 466)] := ⟨sm_sald (show decode _ _ = .ok (.iaload, 1) by decide +kernel) rfl, ⟨sm_callV (C := RX11) (T := TX11) (show decode _ _ = .ok (.invokevirtual 57, 3) by decide +kernel) rfl rfl (by decide) wd_605 wd_606 wd_40 wd_608 wd_607 ⟨by decide +kernel, by decide +kernel, by decide +kernel⟩ rfl, ⟨sm_aload_n (show decode _ _ = .ok (.aload_n 2, 1) by decide +kernel) rfl rfl, ⟨sm_aload_n (show decode _ _ = .ok (.aload_n 0, 1) by decide +kernel) rfl rfl, ⟨sm_iload_n (show decode _ _ = .ok (.iload_n 3, 1) by decide +kernel) rfl rfl, ⟨sm_iconst (show decode _ _ = .ok (.iconst 1, 1) by decide +kernel) (by decide +kernel) rfl, ⟨sm_iadd (show decode _ _ = .ok (.iadd, 1) by decide +kernel) rfl, ⟨sm_sald (show decode _ _ = .ok (.iaload, 1) by decide +kernel) rfl, ⟨sm_aload_n (show decode _ _ = .ok (.aload_n 0, 1) by decide +kernel) rfl rfl, ⟨sm_iload_n (show decode _ _ = .ok (.iload_n 3, 1) by decide +kernel) rfl rfl, ⟨sm_iconst (show decode _ _ = .ok (.iconst 2, 1) by decide +kernel) (by decide +kernel) rfl, ⟨sm_iadd (show decode _ _ = .ok (.iadd, 1) by decide +kernel) rfl, ⟨sm_sald (show decode _ _ = .ok (.iaload, 1) by decide +kernel) rfl, ⟨sm_callV (C := RX12) (T := TX12) (show decode _ _ = .ok (.invokevirtual 60, 3) by decide +kernel) rfl rfl (by decide) wd_1074 wd_1075 wd_56 wd_1077 wd_1076 ⟨by decide +kernel, by decide +kernel, by decide +kernel⟩ rfl, trivial⟩⟩⟩⟩⟩⟩⟩⟩⟩⟩⟩⟩⟩⟩
theorem tm_law_29 : ax_all1 (ax_Sim ax_ME false RL cL_law 4 (some FieldType.boolean)) 464 [none, none, some (a_ceq 969 469), none, none, some (a_iconst 0 470), some (a_zret), some (a_aload 1 472), some (a_aload 0 473), some (a_iload 3 474), some (a_iconst 1 475), some (a_iadd 476), some (a_sald 477), some (a_aload 0 478), some (a_iload 3 479), some (a_iconst 2 480)] := ⟨sm_ceq (show decode _ _ = .ok (.if_icmp .eq 503, 3) by decide +kernel) (by decide) rfl, ⟨sm_iconst (show decode _ _ = .ok (.iconst 0, 1) by decide +kernel) (by decide +kernel) rfl, ⟨sm_zret (show decode _ _ = .ok (.ireturn, 1) by decide +kernel) rfl, ⟨sm_aload_n (show decode _ _ = .ok (.aload_n 1, 1) by decide +kernel) rfl rfl, ⟨sm_aload_n (show decode _ _ = .ok (.aload_n 0, 1) by decide +kernel) rfl rfl, ⟨sm_iload_n (show decode _ _ = .ok (.iload_n 3, 1) by decide +kernel) rfl rfl, ⟨sm_iconst (show decode _ _ = .ok (.iconst 1, 1) by decide +kernel) (by decide +kernel) rfl, ⟨sm_iadd (show decode _ _ = .ok (.iadd, 1) by decide +kernel) rfl, ⟨sm_sald (show decode _ _ = .ok (.iaload, 1) by decide +kernel) rfl, ⟨sm_aload_n (show decode _ _ = .ok (.aload_n 0, 1) by decide +kernel) rfl rfl, ⟨sm_iload_n (show decode _ _ = .ok (.iload_n 3, 1) by decide +kernel) rfl rfl, ⟨sm_iconst (show decode _ _ = .ok (.iconst 2, 1) by decide +kernel) (by decide +kernel) rfl, trivial⟩⟩⟩⟩⟩⟩⟩⟩⟩⟩⟩⟩
theorem tm_law_30 : ax_all1 (ax_Sim ax_ME false RL cL_law 4 (some FieldType.boolean)) 480 [some (a_iadd 481), some (a_sald 482), some (a_aload 0 483), some (a_iload 3 484), some (a_iconst 3 485), some (a_iadd 486), some (a_sald 487), some (a_callV 11 9 76 3 490), none, none, some (a_aload 2 491), some (a_aload 0 492), some (a_iload 3 493), some (a_iconst 1 494), some (a_iadd 495), some (a_sald 496)] := ⟨sm_iadd (show decode _ _ = .ok (.iadd, 1) by decide +kernel) rfl, ⟨sm_sald (show decode _ _ = .ok (.iaload, 1) by decide +kernel) rfl, ⟨sm_aload_n (show decode _ _ = .ok (.aload_n 0, 1) by decide +kernel) rfl rfl, ⟨sm_iload_n (show decode _ _ = .ok (.iload_n 3, 1) by decide +kernel) rfl rfl, ⟨sm_iconst (show decode _ _ = .ok (.iconst 3, 1) by decide +kernel) (by decide +kernel) rfl, ⟨sm_iadd (show decode _ _ = .ok (.iadd, 1) by decide +kernel) rfl, ⟨sm_sald (show decode _ _ = .ok (.iaload, 1) by decide +kernel) rfl, ⟨sm_callV (C := RX11) (T := TX11) (show decode _ _ = .ok (.invokevirtual 61, 3) by decide +kernel) rfl rfl (by decide) wd_617 wd_618 wd_40 wd_620 wd_619 ⟨by decide +kernel, by decide +kernel, by decide +kernel⟩ rfl, ⟨sm_aload_n (show decode _ _ = .ok (.aload_n 2, 1) by decide +kernel) rfl rfl, ⟨sm_aload_n (show decode _ _ = .ok (.aload_n 0, 1) by decide +kernel) rfl rfl, ⟨sm_iload_n (show decode _ _ = .ok (.iload_n 3, 1) by decide +kernel) rfl rfl, ⟨sm_iconst (show decode _ _ = .ok (.iconst 1, 1) by decide +kernel) (by decide +kernel) rfl, ⟨sm_iadd (show decode _ _ = .ok (.iadd, 1) by decide +kernel) rfl, ⟨sm_sald (show decode _ _ = .ok (.iaload, 1) by decide +kernel) rfl, trivial⟩⟩⟩⟩⟩⟩⟩⟩⟩⟩⟩⟩⟩⟩
theorem tm_law_31 : ax_all1 (ax_Sim ax_ME false RL cL_law 4 (some FieldType.boolean)) 496 [some (a_aload 0 497), some (a_iload 3 498), some (a_iconst 2 499), some (a_iadd 500), some (a_sald 501), some (a_aload 0 502), some (a_iload 3 503), some (a_iconst 3 504), some (a_iadd 505), some (a_sald 506), some (a_callV 12 38 143 3 509), none, none, some (a_ceq 969 512), none, none] := ⟨sm_aload_n (show decode _ _ = .ok (.aload_n 0, 1) by decide +kernel) rfl rfl, ⟨sm_iload_n (show decode _ _ = .ok (.iload_n 3, 1) by decide +kernel) rfl rfl, ⟨sm_iconst (show decode _ _ = .ok (.iconst 2, 1) by decide +kernel) (by decide +kernel) rfl, ⟨sm_iadd (show decode _ _ = .ok (.iadd, 1) by decide +kernel) rfl, ⟨sm_sald (show decode _ _ = .ok (.iaload, 1) by decide +kernel) rfl, ⟨sm_aload_n (show decode _ _ = .ok (.aload_n 0, 1) by decide +kernel) rfl rfl, ⟨sm_iload_n (show decode _ _ = .ok (.iload_n 3, 1) by decide +kernel) rfl rfl, ⟨sm_iconst (show decode _ _ = .ok (.iconst 3, 1) by decide +kernel) (by decide +kernel) rfl, ⟨sm_iadd (show decode _ _ = .ok (.iadd, 1) by decide +kernel) rfl, ⟨sm_sald (show decode _ _ = .ok (.iaload, 1) by decide +kernel) rfl, ⟨sm_callV (C := RX12) (T := TX12) (show decode _ _ = .ok (.invokevirtual 64, 3) by decide +kernel) rfl rfl (by decide) wd_1082 wd_1083 wd_56 wd_1085 wd_1084 ⟨by decide +kernel, by decide +kernel, by decide +kernel⟩ rfl, ⟨sm_ceq (show decode _ _ = .ok (.if_icmp .eq 460, 3) by decide +kernel) (by decide) rfl, trivial⟩⟩⟩⟩⟩⟩⟩⟩⟩⟩⟩⟩
theorem tm_law_32 : ax_all1 (ax_Sim ax_ME false RL cL_law 4 (some FieldType.boolean)) 512 [some (a_iconst 0 513), some (a_zret), some (a_aload 1 515), some (a_callV 11 9 77 0 518), none, none, some (a_aload 2 519), some (a_callV 12 38 144 0 522), none, none, some (a_ceq 969 525), none, none, some (a_iconst 0 526), some (a_zret), some (a_aload 1 528)] := ⟨sm_iconst (show decode _ _ = .ok (.iconst 0, 1) by decide +kernel) (by decide +kernel) rfl, ⟨sm_zret (show decode _ _ = .ok (.ireturn, 1) by decide +kernel) rfl, ⟨sm_aload_n (show decode _ _ = .ok (.aload_n 1, 1) by decide +kernel) rfl rfl, ⟨sm_callV (C := RX11) (T := TX11) (show decode _ _ = .ok (.invokevirtual 65, 3) by decide +kernel) rfl rfl (by decide) wd_622 wd_623 wd_40 wd_625 wd_624 ⟨by decide +kernel, by decide +kernel, by decide +kernel⟩ rfl, ⟨sm_aload_n (show decode _ _ = .ok (.aload_n 2, 1) by decide +kernel) rfl rfl, ⟨sm_callV (C := RX12) (T := TX12) (show decode _ _ = .ok (.invokevirtual 68, 3) by decide +kernel) rfl rfl (by decide) wd_1086 wd_1087 wd_56 wd_1089 wd_1088 ⟨by decide +kernel, by decide +kernel, by decide +kernel⟩ rfl, ⟨sm_ceq (show decode _ _ = .ok (.if_icmp .eq 447, 3) by decide +kernel) (by decide) rfl, ⟨sm_iconst (show decode _ _ = .ok (.iconst 0, 1) by decide +kernel) (by decide +kernel) rfl, ⟨sm_zret (show decode _ _ = .ok (.ireturn, 1) by decide +kernel) rfl, ⟨sm_aload_n (show decode _ _ = .ok (.aload_n 1, 1) by decide +kernel) rfl rfl, trivial⟩⟩⟩⟩⟩⟩⟩⟩⟩⟩
theorem tm_law_33 : ax_all1 (ax_Sim ax_ME false RL cL_law 4 (some FieldType.boolean)) 528 [some (a_aload 0 529), some (a_iload 3 530), some (a_iconst 1 531), some (a_iadd 532), some (a_sald 533), some (a_callV 11 9 78 1 536), none, none, some (a_aload 2 537), some (a_aload 0 538), some (a_iload 3 539), some (a_iconst 1 540), some (a_iadd 541), some (a_sald 542), some (a_callV 12 38 145 1 545), none] := ⟨sm_aload_n (show decode _ _ = .ok (.aload_n 0, 1) by decide +kernel) rfl rfl, ⟨sm_iload_n (show decode _ _ = .ok (.iload_n 3, 1) by decide +kernel) rfl rfl, ⟨sm_iconst (show decode _ _ = .ok (.iconst 1, 1) by decide +kernel) (by decide +kernel) rfl, ⟨sm_iadd (show decode _ _ = .ok (.iadd, 1) by decide +kernel) rfl, ⟨sm_sald (show decode _ _ = .ok (.iaload, 1) by decide +kernel) rfl, ⟨sm_callV (C := RX11) (T := TX11) (show decode _ _ = .ok (.invokevirtual 69, 3) by decide +kernel) rfl rfl (by decide) wd_630 wd_631 wd_40 wd_633 wd_632 ⟨by decide +kernel, by decide +kernel, by decide +kernel⟩ rfl, ⟨sm_aload_n (show decode _ _ = .ok (.aload_n 2, 1) by decide +kernel) rfl rfl, ⟨sm_aload_n (show decode _ _ = .ok (.aload_n 0, 1) by decide +kernel) rfl rfl, ⟨sm_iload_n (show decode _ _ = .ok (.iload_n 3, 1) by decide +kernel) rfl rfl, ⟨sm_iconst (show decode _ _ = .ok (.iconst 1, 1) by decide +kernel) (by decide +kernel) rfl, ⟨sm_iadd (show decode _ _ = .ok (.iadd, 1) by decide +kernel) rfl, ⟨sm_sald (show decode _ _ = .ok (.iaload, 1) by decide +kernel) rfl, ⟨sm_callV (C := RX12) (T := TX12) (show decode _ _ = .ok (.invokevirtual 72, 3) by decide +kernel) rfl rfl (by decide) wd_1090 wd_1091 wd_56 wd_1093 wd_1092 ⟨by decide +kernel, by decide +kernel, by decide +kernel⟩ rfl, trivial⟩⟩⟩⟩⟩⟩⟩⟩⟩⟩⟩⟩⟩
theorem tm_law_34 : ax_all1 (ax_Sim ax_ME false RL cL_law 4 (some FieldType.boolean)) 544 [none, some (a_ceq 969 548), none, none, some (a_iconst 0 549), some (a_zret), some (a_aload 1 551), some (a_callV 11 9 79 0 554), none, none, some (a_aload 2 555), some (a_callV 12 38 147 0 558), none, none, some (a_ceq 969 561), none] := ⟨sm_ceq (show decode _ _ = .ok (.if_icmp .eq 424, 3) by decide +kernel) (by decide) rfl, ⟨sm_iconst (show decode _ _ = .ok (.iconst 0, 1) by decide +kernel) (by decide +kernel) rfl, ⟨sm_zret (show decode _ _ = .ok (.ireturn, 1) by decide +kernel) rfl, ⟨sm_aload_n (show decode _ _ = .ok (.aload_n 1, 1) by decide +kernel) rfl rfl, ⟨sm_callV (C := RX11) (T := TX11) (show decode _ _ = .ok (.invokevirtual 73, 3) by decide +kernel) rfl rfl (by decide) wd_638 wd_639 wd_40 wd_641 wd_640 ⟨by decide +kernel, by decide +kernel, by decide +kernel⟩ rfl, ⟨sm_aload_n (show decode _ _ = .ok (.aload_n 2, 1) by decide +kernel) rfl rfl, ⟨sm_callV (C := RX12) (T := TX12) (show decode _ _ = .ok (.invokevirtual 76, 3) by decide +kernel) rfl rfl (by decide) wd_1100 wd_1101 wd_56 wd_1103 wd_1102 ⟨by decide +kernel, by decide +kernel, by decide +kernel⟩ rfl, ⟨sm_ceq (show decode _ _ = .ok (.if_icmp .eq 411, 3) by decide +kernel) (by decide) rfl, trivial⟩⟩⟩⟩⟩⟩⟩⟩
theorem tm_law_35 : ax_all1 (ax_Sim ax_ME false RL cL_law 4 (some FieldType.boolean)) 560 [none, some (a_iconst 0 562), some (a_zret), some (a_aload 1 564), some (a_aload 0 565), some (a_iload 3 566), some (a_iconst 1 567), some (a_iadd 568), some (a_sald 569), some (a_aload 0 570), some (a_iload 3 571), some (a_iconst 2 572), some (a_iadd 573), some (a_sald 574), some (a_aload 0 575), some (a_iload 3 576)] := ⟨sm_iconst (show decode _ _ = .ok (.iconst 0, 1) by decide +kernel) (by decide +kernel) rfl, ⟨sm_zret (show decode _ _ = .ok (.ireturn, 1) by decide +kernel) rfl, ⟨sm_aload_n (show decode _ _ = .ok (.aload_n 1, 1) by decide +kernel) rfl rfl, ⟨sm_aload_n (show decode _ _ = .ok (.aload_n 0, 1) by decide +kernel) rfl rfl, ⟨sm_iload_n (show decode _ _ = .ok (.iload_n 3, 1) by decide +kernel) rfl rfl, ⟨sm_iconst (show decode _ _ = .ok (.iconst 1, 1) by decide +kernel) (by decide +kernel) rfl, ⟨sm_iadd (show decode _ _ = .ok (.iadd, 1) by decide +kernel) rfl, ⟨sm_sald (show decode _ _ = .ok (.iaload, 1) by decide +kernel) rfl, ⟨sm_aload_n (show decode _ _ = .ok (.aload_n 0, 1) by decide +kernel) rfl rfl, ⟨sm_iload_n (show decode _ _ = .ok (.iload_n 3, 1) by decide +kernel) rfl rfl, ⟨sm_iconst (show decode _ _ = .ok (.iconst 2, 1) by decide +kernel) (by decide +kernel) rfl, ⟨sm_iadd (show decode _ _ = .ok (.iadd, 1) by decide +kernel) rfl, ⟨sm_sald (show decode _ _ = .ok (.iaload, 1) by decide +kernel) rfl, ⟨sm_aload_n (show decode _ _ = .ok (.aload_n 0, 1) by decide +kernel) rfl rfl, ⟨sm_iload_n (show decode _ _ = .ok (.iload_n 3, 1) by decide +kernel) rfl rfl, trivial⟩⟩⟩⟩⟩⟩⟩⟩⟩⟩⟩⟩⟩⟩⟩
theorem tm_law_36 : ax_all1 (ax_Sim ax_ME false RL cL_law 4 (some FieldType.boolean)) 576 [some (a_iconst 3 577), some (a_iadd 578), some (a_sald 579), some (a_callV 11 9 80 3 582), none, none, some (a_aload 2 583), some (a_aload 0 584), some (a_iload 3 585), some (a_iconst 1 586), some (a_iadd 587), some (a_sald 588), some (a_aload 0 589), some (a_iload 3 590), some (a_iconst 2 591), some (a_iadd 592)] := ⟨sm_iconst (show decode _ _ = .ok (.iconst 3, 1) by decide +kernel) (by decide +kernel) rfl, ⟨sm_iadd (show decode _ _ = .ok (.iadd, 1) by decide +kernel) rfl, ⟨sm_sald (show decode _ _ = .ok (.iaload, 1) by decide +kernel) rfl, ⟨sm_callV (C := RX11) (T := TX11) (show decode _ _ = .ok (.invokevirtual 77, 3) by decide +kernel) rfl rfl (by decide) wd_646 wd_647 wd_40 wd_649 wd_648 ⟨by decide +kernel, by decide +kernel, by decide +kernel⟩ rfl, ⟨sm_aload_n (show decode _ _ = .ok (.aload_n 2, 1) by decide +kernel) rfl rfl, ⟨sm_aload_n (show decode _ _ = .ok (.aload_n 0, 1) by decide +kernel) rfl rfl, ⟨sm_iload_n (show decode _ _ = .ok (.iload_n 3, 1) by decide +kernel) rfl rfl, ⟨sm_iconst (show decode _ _ = .ok (.iconst 1, 1) by decide +kernel) (by decide +kernel) rfl, ⟨sm_iadd (show decode _ _ = .ok (.iadd, 1) by decide +kernel) rfl, ⟨sm_sald (show decode _ _ = .ok (.iaload, 1) by decide +kernel) rfl, ⟨sm_aload_n (show decode _ _ = .ok (.aload_n 0, 1) by decide +kernel) rfl rfl, ⟨sm_iload_n (show decode _ _ = .ok (.iload_n 3, 1) by decide +kernel) rfl rfl, ⟨sm_iconst (show decode _ _ = .ok (.iconst 2, 1) by decide +kernel) (by decide +kernel) rfl, ⟨sm_iadd (show decode _ _ = .ok (.iadd, 1) by decide +kernel) rfl, trivial⟩⟩⟩⟩⟩⟩⟩⟩⟩⟩⟩⟩⟩⟩
theorem tm_law_37 : ax_all1 (ax_Sim ax_ME false RL cL_law 4 (some FieldType.boolean)) 592 [some (a_sald 593), some (a_aload 0 594), some (a_iload 3 595), some (a_iconst 3 596), some (a_iadd 597), some (a_sald 598), some (a_callV 12 38 149 3 601), none, none, some (a_ceq 969 604), none, none, some (a_iconst 0 605), some (a_zret), some (a_aload 1 607), some (a_aload 0 608)] := ⟨sm_sald (show decode _ _ = .ok (.iaload, 1) by decide +kernel) rfl, ⟨sm_aload_n (show decode _ _ = .ok (.aload_n 0, 1) by decide +kernel) rfl rfl, ⟨sm_iload_n (show decode _ _ = .ok (.iload_n 3, 1) by decide +kernel) rfl rfl, ⟨sm_iconst (show decode _ _ = .ok (.iconst 3, 1) by decide +kernel) (by decide +kernel) rfl, ⟨sm_iadd (show decode _ _ = .ok (.iadd, 1) by decide +kernel) rfl, ⟨sm_sald (show decode _ _ = .ok (.iaload, 1) by decide +kernel) rfl, ⟨sm_callV (C := RX12) (T := TX12) (show decode _ _ = .ok (.invokevirtual 80, 3) by decide +kernel) rfl rfl (by decide) wd_1104 wd_1105 wd_56 wd_1107 wd_1106 ⟨by decide +kernel, by decide +kernel, by decide +kernel⟩ rfl, ⟨sm_ceq (show decode _ _ = .ok (.if_icmp .eq 368, 3) by decide +kernel) (by decide) rfl, ⟨sm_iconst (show decode _ _ = .ok (.iconst 0, 1) by decide +kernel) (by decide +kernel) rfl, ⟨sm_zret (show decode _ _ = .ok (.ireturn, 1) by decide +kernel) rfl, ⟨sm_aload_n (show decode _ _ = .ok (.aload_n 1, 1) by decide +kernel) rfl rfl, ⟨sm_aload_n (show decode _ _ = .ok (.aload_n 0, 1) by decide +kernel) rfl rfl, trivial⟩⟩⟩⟩⟩⟩⟩⟩⟩⟩⟩⟩
theorem tm_law_38 : ax_all1 (ax_Sim ax_ME false RL cL_law 4 (some FieldType.boolean)) 608 [some (a_iload 3 609), some (a_iconst 1 610), some (a_iadd 611), some (a_sald 612), some (a_aload 0 613), some (a_iload 3 614), some (a_iconst 2 615), some (a_iadd 616), some (a_sald 617), some (a_callV 11 9 81 2 620), none, none, some (a_aload 2 621), some (a_aload 0 622), some (a_iload 3 623), some (a_iconst 1 624)] := ⟨sm_iload_n (show decode _ _ = .ok (.iload_n 3, 1) by decide +kernel) rfl rfl, ⟨sm_iconst (show decode _ _ = .ok (.iconst 1, 1) by decide +kernel) (by decide +kernel) rfl, ⟨sm_iadd (show decode _ _ = .ok (.iadd, 1) by decide +kernel) rfl, ⟨sm_sald (show decode _ _ = .ok (.iaload, 1) by decide +kernel) rfl, ⟨sm_aload_n (show decode _ _ = .ok (.aload_n 0, 1) by decide +kernel) rfl rfl, ⟨sm_iload_n (show decode _ _ = .ok (.iload_n 3, 1) by decide +kernel) rfl rfl, ⟨sm_iconst (show decode _ _ = .ok (.iconst 2, 1) by decide +kernel) (by decide +kernel) rfl, ⟨sm_iadd (show decode _ _ = .ok (.iadd, 1) by decide +kernel) rfl, ⟨sm_sald (show decode _ _ = .ok (.iaload, 1) by decide +kernel) rfl, ⟨sm_callV (C := RX11) (T := TX11) (show decode _ _ = .ok (.invokevirtual 81, 3) by decide +kernel) rfl rfl (by decide) wd_663 wd_664 wd_40 wd_666 wd_665 ⟨by decide +kernel, by decide +kernel, by decide +kernel⟩ rfl, ⟨sm_aload_n (show decode _ _ = .ok (.aload_n 2, 1) by decide +kernel) rfl rfl, ⟨sm_aload_n (show decode _ _ = .ok (.aload_n 0, 1) by decide +kernel) rfl rfl, ⟨sm_iload_n (show decode _ _ = .ok (.iload_n 3, 1) by decide +kernel) rfl rfl, ⟨sm_iconst (show decode _ _ = .ok (.iconst 1, 1) by decide +kernel) (by decide +kernel) rfl, trivial⟩⟩⟩⟩⟩⟩⟩⟩⟩⟩⟩⟩⟩⟩
theorem tm_law_39 : ax_all1 (ax_Sim ax_ME false RL cL_law 4 (some FieldType.boolean)) 624 [some (a_iadd 625), some (a_sald 626), some (a_aload 0 627), some (a_iload 3 628), some (a_iconst 2 629), some (a_iadd 630), some (a_sald 631), some (a_callV 12 38 150 2 634), none, none, some (a_ceq 969 637), none, none, some (a_iconst 0 638), some (a_zret), some (a_aload 1 640)] := ⟨sm_iadd (show decode _ _ = .ok (.iadd, 1) by decide +kernel) rfl, ⟨sm_sald (show decode _ _ = .ok (.iaload, 1) by decide +kernel) rfl, ⟨sm_aload_n (show decode _ _ = .ok (.aload_n 0, 1) by decide +kernel) rfl rfl, ⟨sm_iload_n (show decode _ _ = .ok (.iload_n 3, 1) by decide +kernel) rfl rfl, ⟨sm_iconst (show decode _ _ = .ok (.iconst 2, 1) by decide +kernel) (by decide +kernel) rfl, ⟨sm_iadd (show decode _ _ = .ok (.iadd, 1) by decide +kernel) rfl, ⟨sm_sald (show decode _ _ = .ok (.iaload, 1) by decide +kernel) rfl, ⟨sm_callV (C := RX12) (T := TX12) (show decode _ _ = .ok (.invokevirtual 84, 3) by decide +kernel) rfl rfl (by decide) wd_1112 wd_1113 wd_56 wd_1115 wd_1114 ⟨by decide +kernel, by decide +kernel, by decide +kernel⟩ rfl, ⟨sm_ceq (show decode _ _ = .ok (.if_icmp .eq 335, 3) by decide +kernel) (by decide) rfl, ⟨sm_iconst (show decode _ _ = .ok (.iconst 0, 1) by decide +kernel) (by decide +kernel) rfl, ⟨sm_zret (show decode _ _ = .ok (.ireturn, 1) by decide +kernel) rfl, ⟨sm_aload_n (show decode _ _ = .ok (.aload_n 1, 1) by decide +kernel) rfl rfl, trivial⟩⟩⟩⟩⟩⟩⟩⟩⟩⟩⟩⟩
theorem tm_law_40 : ax_all1 (ax_Sim ax_ME false RL cL_law 4 (some FieldType.boolean)) 640 [some (a_callV 11 9 82 0 643), none, none, some (a_aload 2 644), some (a_callV 12 38 151 0 647), none, none, some (a_ceq 969 650), none, none, some (a_iconst 0 651), some (a_zret), some (a_aload 1 653), some (a_callV 11 9 83 0 656), none, none] := ⟨sm_callV (C := RX11) (T := TX11) (show decode _ _ = .ok (.invokevirtual 85, 3) by decide +kernel) rfl rfl (by decide) wd_671 wd_672 wd_40 wd_674 wd_673 ⟨by decide +kernel, by decide +kernel, by decide +kernel⟩ rfl, ⟨sm_aload_n (show decode _ _ = .ok (.aload_n 2, 1) by decide +kernel) rfl rfl, ⟨sm_callV (C := RX12) (T := TX12) (show decode _ _ = .ok (.invokevirtual 88, 3) by decide +kernel) rfl rfl (by decide) wd_1116 wd_1117 wd_56 wd_1119 wd_1118 ⟨by decide +kernel, by decide +kernel, by decide +kernel⟩ rfl, ⟨sm_ceq (show decode _ _ = .ok (.if_icmp .eq 322, 3) by decide +kernel) (by decide) rfl, ⟨sm_iconst (show decode _ _ = .ok (.iconst 0, 1) by decide +kernel) (by decide +kernel) rfl, ⟨sm_zret (show decode _ _ = .ok (.ireturn, 1) by decide +kernel) rfl, ⟨sm_aload_n (show decode _ _ = .ok (.aload_n 1, 1) by decide +kernel) rfl rfl, ⟨sm_callV (C := RX11) (T := TX11) (show decode _ _ = .ok (.invokevirtual 89, 3) by decide +kernel) rfl rfl (by decide) wd_675 wd_676 wd_40 wd_678 wd_677 ⟨by decide +kernel, by decide +kernel, by decide +kernel⟩ rfl, trivial⟩⟩⟩⟩⟩⟩⟩⟩
theorem tm_law_41 : ax_all1 (ax_Sim ax_ME false RL cL_law 4 (some FieldType.boolean)) 656 [some (a_aload 2 657), some (a_callV 12 38 152 0 660), none, none, some (a_ceq 969 663), none, none, some (a_iconst 0 664), some (a_zret), some (a_aload 1 666), some (a_aload 0 667), some (a_iload 3 668), some (a_iconst 1 669), some (a_iadd 670), some (a_sald 671), some (a_callV 11 9 84 1 674)] := ⟨sm_aload_n (show decode _ _ = .ok (.aload_n 2, 1) by decide +kernel) rfl rfl, ⟨sm_callV (C := RX12) (T := TX12) (show decode _ _ = .ok (.invokevirtual 92, 3) by decide +kernel) rfl rfl (by decide) wd_1120 wd_1121 wd_56 wd_1123 wd_1122 ⟨by decide +kernel, by decide +kernel, by decide +kernel⟩ rfl, ⟨sm_ceq (show decode _ _ = .ok (.if_icmp .eq 309, 3) by decide +kernel) (by decide) rfl, ⟨sm_iconst (show decode _ _ = .ok (.iconst 0, 1) by decide +kernel) (by decide +kernel) rfl, ⟨sm_zret (show decode _ _ = .ok (.ireturn, 1) by decide +kernel) rfl, ⟨sm_aload_n (show decode _ _ = .ok (.aload_n 1, 1) by decide +kernel) rfl rfl, ⟨sm_aload_n (show decode _ _ = .ok (.aload_n 0, 1) by decide +kernel) rfl rfl, ⟨sm_iload_n (show decode _ _ = .ok (.iload_n 3, 1) by decide +kernel) rfl rfl, ⟨sm_iconst (show decode _ _ = .ok (.iconst 1, 1) by decide +kernel) (by decide +kernel) rfl, ⟨sm_iadd (show decode _ _ = .ok (.iadd, 1) by decide +kernel) rfl, ⟨sm_sald (show decode _ _ = .ok (.iaload, 1) by decide +kernel) rfl, ⟨sm_callV (C := RX11) (T := TX11) (show decode _ _ = .ok (.invokevirtual 93, 3) by decide +kernel) rfl rfl (by decide) wd_688 wd_689 wd_40 wd_691 wd_690 ⟨by decide +kernel, by decide +kernel, by decide +kernel⟩ rfl, trivial⟩⟩⟩⟩⟩⟩⟩⟩⟩⟩⟩⟩
theorem tm_law_42 : ax_all1 (ax_Sim ax_ME false RL cL_law 4 (some FieldType.boolean)) 672 [none, none, some (a_aload 2 675), some (a_aload 0 676), some (a_iload 3 677), some (a_iconst 1 678), some (a_iadd 679), some (a_sald 680), some (a_callV 12 38 154 1 683), none, none, some (a_ceq 969 686), none, none, some (a_iconst 0 687), some (a_zret)] := ⟨sm_aload_n (show decode _ _ = .ok (.aload_n 2, 1) by decide +kernel) rfl rfl, ⟨sm_aload_n (show decode _ _ = .ok (.aload_n 0, 1) by decide +kernel) rfl rfl, ⟨sm_iload_n (show decode _ _ = .ok (.iload_n 3, 1) by decide +kernel) rfl rfl, ⟨sm_iconst (show decode _ _ = .ok (.iconst 1, 1) by decide +kernel) (by decide +kernel) rfl, ⟨sm_iadd (show decode _ _ = .ok (.iadd, 1) by decide +kernel) rfl, ⟨sm_sald (show decode _ _ = .ok (.iaload, 1) by decide +kernel) rfl, ⟨sm_callV (C := RX12) (T := TX12) (show decode _ _ = .ok (.invokevirtual 96, 3) by decide +kernel) rfl rfl (by decide) wd_1124 wd_1125 wd_56 wd_1127 wd_1126 ⟨by decide +kernel, by decide +kernel, by decide +kernel⟩ rfl, ⟨sm_ceq (show decode _ _ = .ok (.if_icmp .eq 286, 3) by decide +kernel) (by decide) rfl, ⟨sm_iconst (show decode _ _ = .ok (.iconst 0, 1) by decide +kernel) (by decide +kernel) rfl, ⟨sm_zret (show decode _ _ = .ok (.ireturn, 1) by decide +kernel) rfl, trivial⟩⟩⟩⟩⟩⟩⟩⟩⟩⟩
theorem tm_law_43 : ax_all1 (ax_Sim ax_ME false RL cL_law 4 (some FieldType.boolean)) 688 [some (a_aload 1 689), some (a_aload 0 690), some (a_iload 3 691), some (a_iconst 1 692), some (a_iadd 693), some (a_sald 694), some (a_callV 11 9 85 1 697), none, none, some (a_aload 2 698), some (a_aload 0 699), some (a_iload 3 700), some (a_iconst 1 701), some (a_iadd 702), some (a_sald 703), some (a_callV 12 38 156 1 706)] := ⟨sm_aload_n (show decode _ _ = .ok (.aload_n 1, 1) by decide +kernel) rfl rfl, ⟨sm_aload_n (show decode _ _ = .ok (.aload_n 0, 1) by decide +kernel) rfl rfl, ⟨sm_iload_n (show decode _ _ = .ok (.iload_n 3, 1) by decide +kernel) rfl rfl, ⟨sm_iconst (show decode _ _ = .ok (.iconst 1, 1) by decide +kernel) (by decide +kernel) rfl, ⟨sm_iadd (show decode _ _ = .ok (.iadd, 1) by decide +kernel) rfl, ⟨sm_sald (show decode _ _ = .ok (.iaload, 1) by decide +kernel) rfl, ⟨sm_callV (C := RX11) (T := TX11) (show decode _ _ = .ok (.invokevirtual 97, 3) by decide +kernel) rfl rfl (by decide) wd_696 wd_697 wd_40 wd_699 wd_698 ⟨by decide +kernel, by decide +kernel, by decide +kernel⟩ rfl, ⟨sm_aload_n (show decode _ _ = .ok (.aload_n 2, 1) by decide +kernel) rfl rfl, ⟨sm_aload_n (show decode _ _ = .ok (.aload_n 0, 1) by decide +kernel) rfl rfl, ⟨sm_iload_n (show decode _ _ = .ok (.iload_n 3, 1) by decide +kernel) rfl rfl, ⟨sm_iconst (show decode _ _ = .ok (.iconst 1, 1) by decide +kernel) (by decide +kernel) rfl, ⟨sm_iadd (show decode _ _ = .ok (.iadd, 1) by decide +kernel) rfl, ⟨sm_sald (show decode _ _ = .ok (.iaload, 1) by decide +kernel) rfl, ⟨sm_callV (C := RX12) (T := TX12) (show decode _ _ = .ok (.invokevirtual 100, 3) by decide +kernel) rfl rfl (by decide) wd_1133 wd_1134 wd_56 wd_1136 wd_1135 ⟨by decide +kernel, by decide +kernel, by decide +kernel⟩ rfl, trivial⟩⟩⟩⟩⟩⟩⟩⟩⟩⟩⟩⟩⟩⟩
theorem tm_law_44 : ax_all1 (ax_Sim ax_ME false RL cL_law 4 (some FieldType.boolean)) 704 [none, none, some (a_ceq 969 709), none, none, some (a_iconst 0 710), some (a_zret), some (a_aload 1 712), some (a_aload 0 713), some (a_iload 3 714), some (a_iconst 1 715), some (a_iadd 716), some (a_sald 717), some (a_callV 11 9 86 1 720), none, none] := ⟨sm_ceq (show decode _ _ = .ok (.if_icmp .eq 263, 3) by decide +kernel) (by decide) rfl, ⟨sm_iconst (show decode _ _ = .ok (.iconst 0, 1) by decide +kernel) (by decide +kernel) rfl, ⟨sm_zret (show decode _ _ = .ok (.ireturn, 1) by decide +kernel) rfl, ⟨sm_aload_n (show decode _ _ = .ok (.aload_n 1, 1) by decide +kernel) rfl rfl, ⟨sm_aload_n (show decode _ _ = .ok (.aload_n 0, 1) by decide +kernel) rfl rfl, ⟨sm_iload_n (show decode _ _ = .ok (.iload_n 3, 1) by decide +kernel) rfl rfl, ⟨sm_iconst (show decode _ _ = .ok (.iconst 1, 1) by decide +kernel) (by decide +kernel) rfl, ⟨sm_iadd (show decode _ _ = .ok (.iadd, 1) by decide +kernel) rfl, ⟨sm_sald (show decode _ _ = .ok (.iaload, 1) by decide +kernel) rfl, ⟨sm_callV (C := RX11) (T := TX11) (show decode _ _ = .ok (.invokevirtual 101, 3) by decide +kernel) rfl rfl (by decide) wd_725 wd_726 wd_40 wd_728 wd_727 ⟨by decide +kernel, by decide +kernel, by decide +kernel⟩ rfl, trivial⟩⟩⟩⟩⟩⟩⟩⟩⟩⟩
theorem tm_law_45 : ax_all1 (ax_Sim ax_ME false RL cL_law 4 (some FieldType.boolean)) 720 [some (a_aload 2 721), some (a_aload 0 722), some (a_iload 3 723), some (a_iconst 1 724), some (a_iadd 725), some (a_sald 726), some (a_callV 12 38 158 1 729), none, none, some (a_ceq 969 732), none, none, some (a_iconst 0 733), some (a_zret), some (a_aload 1 735), some (a_aload 0 736)] := ⟨sm_aload_n (show decode _ _ = .ok (.aload_n 2, 1) by decide +kernel) rfl rfl, ⟨sm_aload_n (show decode _ _ = .ok (.aload_n 0, 1) by decide +kernel) rfl rfl, ⟨sm_iload_n (show decode _ _ = .ok (.iload_n 3, 1) by decide +kernel) rfl rfl, ⟨sm_iconst (show decode _ _ = .ok (.iconst 1, 1) by decide +kernel) (by decide +kernel) rfl, ⟨sm_iadd (show decode _ _ = .ok (.iadd, 1) by decide +kernel) rfl, ⟨sm_sald (show decode _ _ = .ok (.iaload, 1) by decide +kernel) rfl, ⟨sm_callV (C := RX12) (T := TX12) (show decode _ _ = .ok (.invokevirtual 104, 3) by decide +kernel) rfl rfl (by decide) wd_1141 wd_1142 wd_56 wd_1144 wd_1143 ⟨by decide +kernel, by decide +kernel, by decide +kernel⟩ rfl, ⟨sm_ceq (show decode _ _ = .ok (.if_icmp .eq 240, 3) by decide +kernel) (by decide) rfl, ⟨sm_iconst (show decode _ _ = .ok (.iconst 0, 1) by decide +kernel) (by decide +kernel) rfl, ⟨sm_zret (show decode _ _ = .ok (.ireturn, 1) by decide +kernel) rfl, ⟨sm_aload_n (show decode _ _ = .ok (.aload_n 1, 1) by decide +kernel) rfl rfl, ⟨sm_aload_n (show decode _ _ = .ok (.aload_n 0, 1) by decide +kernel) rfl rfl, trivial⟩⟩⟩⟩⟩⟩⟩⟩⟩⟩⟩⟩
theorem tm_law_46 : ax_all1 (ax_Sim ax_ME false RL cL_law 4 (some FieldType.boolean)) 736 [some (a_iload 3 737), some (a_iconst 1 738), some (a_iadd 739), some (a_sald 740), some (a_aload 0 741), some (a_iload 3 742), some (a_iconst 2 743), some (a_iadd 744), some (a_sald 745), some (a_callV 11 9 87 2 748), none, none, some (a_aload 2 749), some (a_aload 0 750), some (a_iload 3 751), some (a_iconst 1 752)] := ⟨sm_iload_n (show decode _ _ = .ok (.iload_n 3, 1) by decide +kernel) rfl rfl, ⟨sm_iconst (show decode _ _ = .ok (.iconst 1, 1) by decide +kernel) (by decide +kernel) rfl, ⟨sm_iadd (show decode _ _ = .ok (.iadd, 1) by decide +kernel) rfl, ⟨sm_sald (show decode _ _ = .ok (.iaload, 1) by decide +kernel) rfl, ⟨sm_aload_n (show decode _ _ = .ok (.aload_n 0, 1) by decide +kernel) rfl rfl, ⟨sm_iload_n (show decode _ _ = .ok (.iload_n 3, 1) by decide +kernel) rfl rfl, ⟨sm_iconst (show decode _ _ = .ok (.iconst 2, 1) by decide +kernel) (by decide +kernel) rfl, ⟨sm_iadd (show decode _ _ = .ok (.iadd, 1) by decide +kernel) rfl, ⟨sm_sald (show decode _ _ = .ok (.iaload, 1) by decide +kernel) rfl, ⟨sm_callV (C := RX11) (T := TX11) (show decode _ _ = .ok (.invokevirtual 105, 3) by decide +kernel) rfl rfl (by decide) wd_742 wd_743 wd_40 wd_745 wd_744 ⟨by decide +kernel, by decide +kernel, by decide +kernel⟩ rfl, ⟨sm_aload_n (show decode _ _ = .ok (.aload_n 2, 1) by decide +kernel) rfl rfl, ⟨sm_aload_n (show decode _ _ = .ok (.aload_n 0, 1) by decide +kernel) rfl rfl, ⟨sm_iload_n (show decode _ _ = .ok (.iload_n 3, 1) by decide +kernel) rfl rfl, ⟨sm_iconst (show decode _ _ = .ok (.iconst 1, 1) by decide +kernel) (by decide +kernel) rfl, trivial⟩⟩⟩⟩⟩⟩⟩⟩⟩⟩⟩⟩⟩⟩
theorem tm_law_47 : ax_all1 (ax_Sim ax_ME false RL cL_law 4 (some FieldType.boolean)) 752 [some (a_iadd 753), some (a_sald 754), some (a_aload 0 755), some (a_iload 3 756), some (a_iconst 2 757), some (a_iadd 758), some (a_sald 759), some (a_callV 12 38 163 2 762), none, none, some (a_ceq 969 765), none, none, some (a_iconst 0 766), some (a_zret), some (a_aload 1 768)] := ⟨sm_iadd (show decode _ _ = .ok (.iadd, 1) by decide +kernel) rfl, ⟨sm_sald (show decode _ _ = .ok (.iaload, 1) by decide +kernel) rfl, ⟨sm_aload_n (show decode _ _ = .ok (.aload_n 0, 1) by decide +kernel) rfl rfl, ⟨sm_iload_n (show decode _ _ = .ok (.iload_n 3, 1) by decide +kernel) rfl rfl, ⟨sm_iconst (show decode _ _ = .ok (.iconst 2, 1) by decide +kernel) (by decide +kernel) rfl, ⟨sm_iadd (show decode _ _ = .ok (.iadd, 1) by decide +kernel) rfl, ⟨sm_sald (show decode _ _ = .ok (.iaload, 1) by decide +kernel) rfl, ⟨sm_callV (C := RX12) (T := TX12) (show decode _ _ = .ok (.invokevirtual 108, 3) by decide +kernel) rfl rfl (by decide) wd_1152 wd_1153 wd_56 wd_1155 wd_1154 ⟨by decide +kernel, by decide +kernel, by decide +kernel⟩ rfl, ⟨sm_ceq (show decode _ _ = .ok (.if_icmp .eq 207, 3) by decide +kernel) (by decide) rfl, ⟨sm_iconst (show decode _ _ = .ok (.iconst 0, 1) by decide +kernel) (by decide +kernel) rfl, ⟨sm_zret (show decode _ _ = .ok (.ireturn, 1) by decide +kernel) rfl, ⟨sm_aload_n (show decode _ _ = .ok (.aload_n 1, 1) by decide +kernel) rfl rfl, trivial⟩⟩⟩⟩⟩⟩⟩⟩⟩⟩⟩⟩
theorem tm_law_48 : ax_all1 (ax_Sim ax_ME false RL cL_law 4 (some FieldType.boolean)) 768 [some (a_aload 0 769), some (a_iload 3 770), some (a_iconst 1 771), some (a_iadd 772), some (a_sald 773), some (a_aload 0 774), some (a_iload 3 775), some (a_iconst 2 776), some (a_iadd 777), some (a_sald 778), some (a_callV 11 9 88 2 781), none, none, some (a_aload 2 782), some (a_aload 0 783), some (a_iload 3 784)] := ⟨sm_aload_n (show decode _ _ = .ok (.aload_n 0, 1) by decide +kernel) rfl rfl, ⟨sm_iload_n (show decode _ _ = .ok (.iload_n 3, 1) by decide +kernel) rfl rfl, ⟨sm_iconst (show decode _ _ = .ok (.iconst 1, 1) by decide +kernel) (by decide +kernel) rfl, ⟨sm_iadd (show decode _ _ = .ok (.iadd, 1) by decide +kernel) rfl, ⟨sm_sald (show decode _ _ = .ok (.iaload, 1) by decide +kernel) rfl, ⟨sm_aload_n (show decode _ _ = .ok (.aload_n 0, 1) by decide +kernel) rfl rfl, ⟨sm_iload_n (show decode _ _ = .ok (.iload_n 3, 1) by decide +kernel) rfl rfl, ⟨sm_iconst (show decode _ _ = .ok (.iconst 2, 1) by decide +kernel) (by decide +kernel) rfl, ⟨sm_iadd (show decode _ _ = .ok (.iadd, 1) by decide +kernel) rfl, ⟨sm_sald (show decode _ _ = .ok (.iaload, 1) by decide +kernel) rfl, ⟨sm_callV (C := RX11) (T := TX11) (show decode _ _ = .ok (.invokevirtual 109, 3) by decide +kernel) rfl rfl (by decide) wd_755 wd_756 wd_40 wd_758 wd_757 ⟨by decide +kernel, by decide +kernel, by decide +kernel⟩ rfl, ⟨sm_aload_n (show decode _ _ = .ok (.aload_n 2, 1) by decide +kernel) rfl rfl, ⟨sm_aload_n (show decode _ _ = .ok (.aload_n 0, 1) by decide +kernel) rfl rfl, ⟨sm_iload_n (show decode _ _ = .ok (.iload_n 3, 1) by decide +kernel) rfl rfl, trivial⟩⟩⟩⟩⟩⟩⟩⟩⟩⟩⟩⟩⟩⟩
theorem tm_law_49 : ax_all1 (ax_Sim ax_ME false RL cL_law 4 (some FieldType.boolean)) 784 [some (a_iconst 1 785), some (a_iadd 786), some (a_sald 787), some (a_aload 0 788), some (a_iload 3 789), some (a_iconst 2 790), some (a_iadd 791), some (a_sald 792), some (a_callV 12 38 164 2 795), none, none, some (a_ceq 969 798), none, none, some (a_iconst 0 799), some (a_zret)] := ⟨sm_iconst (show decode _ _ = .ok (.iconst 1, 1) by decide +kernel) (by decide +kernel) rfl, ⟨sm_iadd (show decode _ _ = .ok (.iadd, 1) by decide +kernel) rfl, ⟨sm_sald (show decode _ _ = .ok (.iaload, 1) by decide +kernel) rfl, ⟨sm_aload_n (show decode _ _ = .ok (.aload_n 0, 1) by decide +kernel) rfl rfl, ⟨sm_iload_n (show decode _ _ = .ok (.iload_n 3, 1) by decide +kernel) rfl rfl, ⟨sm_iconst (show decode _ _ = .ok (.iconst 2, 1) by decide +kernel) (by decide +kernel) rfl, ⟨sm_iadd (show decode _ _ = .ok (.iadd, 1) by decide +kernel) rfl, ⟨sm_sald (show decode _ _ = .ok (.iaload, 1) by decide +kernel) rfl, ⟨sm_callV (C := RX12) (T := TX12) (show decode _ _ = .ok (.invokevirtual 112, 3) by decide +kernel) rfl rfl (by decide) wd_1168 wd_1169 wd_56 wd_1171 wd_1170 ⟨by decide +kernel, by decide +kernel, by decide +kernel⟩ rfl, ⟨sm_ceq (show decode _ _ = .ok (.if_icmp .eq 174, 3) by decide +kernel) (by decide) rfl, ⟨sm_iconst (show decode _ _ = .ok (.iconst 0, 1) by decide +kernel) (by decide +kernel) rfl, ⟨sm_zret (show decode _ _ = .ok (.ireturn, 1) by decide +kernel) rfl, trivial⟩⟩⟩⟩⟩⟩⟩⟩⟩⟩⟩⟩
theorem tm_law_50 : ax_all1 (ax_Sim ax_ME false RL cL_law 4 (some FieldType.boolean)) 800 [some (a_aload 1 801), some (a_aload 0 802), some (a_iload 3 803), some (a_iconst 1 804), some (a_iadd 805), some (a_sald 806), some (a_callV 11 9 89 1 809), none, none, some (a_aload 2 810), some (a_aload 0 811), some (a_iload 3 812), some (a_iconst 1 813), some (a_iadd 814), some (a_sald 815), some (a_callV 12 38 165 1 818)] := ⟨sm_aload_n (show decode _ _ = .ok (.aload_n 1, 1) by decide +kernel) rfl rfl, ⟨sm_aload_n (show decode _ _ = .ok (.aload_n 0, 1) by decide +kernel) rfl rfl, ⟨sm_iload_n (show decode _ _ = .ok (.iload_n 3, 1) by decide +kernel) rfl rfl, ⟨sm_iconst (show decode _ _ = .ok (.iconst 1, 1) by decide +kernel) (by decide +kernel) rfl, ⟨sm_iadd (show decode _ _ = .ok (.iadd, 1) by decide +kernel) rfl, ⟨sm_sald (show decode _ _ = .ok (.iaload, 1) by decide +kernel) rfl, ⟨sm_callV (C := RX11) (T := TX11) (show decode _ _ = .ok (.invokevirtual 113, 3) by decide +kernel) rfl rfl (by decide) wd_759 wd_760 wd_40 wd_762 wd_761 ⟨by decide +kernel, by decide +kernel, by decide +kernel⟩ rfl, ⟨sm_aload_n (show decode _ _ = .ok (.aload_n 2, 1) by decide +kernel) rfl rfl, ⟨sm_aload_n (show decode _ _ = .ok (.aload_n 0, 1) by decide +kernel) rfl rfl, ⟨sm_iload_n (show decode _ _ = .ok (.iload_n 3, 1) by decide +kernel) rfl rfl, ⟨sm_iconst (show decode _ _ = .ok (.iconst 1, 1) by decide +kernel) (by decide +kernel) rfl, ⟨sm_iadd (show decode _ _ = .ok (.iadd, 1) by decide +kernel) rfl, ⟨sm_sald (show decode _ _ = .ok (.iaload, 1) by decide +kernel) rfl, ⟨sm_callV (C := RX12) (T := TX12) (show decode _ _ = .ok (.invokevirtual 116, 3) by decide +kernel) rfl rfl (by decide) wd_1172 wd_1173 wd_56 wd_1175 wd_1174 ⟨by decide +kernel, by decide +kernel, by decide +kernel⟩ rfl, trivial⟩⟩⟩⟩⟩⟩⟩⟩⟩⟩⟩⟩⟩⟩
theorem tm_law_51 : ax_all1 (ax_Sim ax_ME false RL cL_law 4 (some FieldType.boolean)) 816 [none, none, some (a_ceq 969 821), none, none, some (a_iconst 0 822), some (a_zret), some (a_aload 1 824), some (a_aload 0 825), some (a_iload 3 826), some (a_iconst 1 827), some (a_iadd 828), some (a_sald 829), some (a_aload 0 830), some (a_iload 3 831), some (a_iconst 2 832)] := ⟨sm_ceq (show decode _ _ = .ok (.if_icmp .eq 151, 3) by decide +kernel) (by decide) rfl, ⟨sm_iconst (show decode _ _ = .ok (.iconst 0, 1) by decide +kernel) (by decide +kernel) rfl, ⟨sm_zret (show decode _ _ = .ok (.ireturn, 1) by decide +kernel) rfl, ⟨sm_aload_n (show decode _ _ = .ok (.aload_n 1, 1) by decide +kernel) rfl rfl, ⟨sm_aload_n (show decode _ _ = .ok (.aload_n 0, 1) by decide +kernel) rfl rfl, ⟨sm_iload_n (show decode _ _ = .ok (.iload_n 3, 1) by decide +kernel) rfl rfl, ⟨sm_iconst (show decode _ _ = .ok (.iconst 1, 1) by decide +kernel) (by decide +kernel) rfl, ⟨sm_iadd (show decode _ _ = .ok (.iadd, 1) by decide +kernel) rfl, ⟨sm_sald (show decode _ _ = .ok (.iaload, 1) by decide +kernel) rfl, ⟨sm_aload_n (show decode _ _ = .ok (.aload_n 0, 1) by decide +kernel) rfl rfl, ⟨sm_iload_n (show decode _ _ = .ok (.iload_n 3, 1) by decide +kernel) rfl rfl, ⟨sm_iconst (show decode _ _ = .ok (.iconst 2, 1) by decide +kernel) (by decide +kernel) rfl, trivial⟩⟩⟩⟩⟩⟩⟩⟩⟩⟩⟩⟩
theorem tm_law_52 : ax_all1 (ax_Sim ax_ME false RL cL_law 4 (some FieldType.boolean)) 832 [some (a_iadd 833), some (a_sald 834), some (a_aload 0 835), some (a_iload 3 836), some (a_iconst 3 837), some (a_iadd 838), some (a_sald 839), some (a_aload 0 840), some (a_iload 3 841), some (a_iconst 4 842), some (a_iadd 843), some (a_sald 844), some (a_aload 0 845), some (a_iload 3 846), some (a_iconst 5 847), some (a_iadd 848)] := ⟨sm_iadd (show decode _ _ = .ok (.iadd, 1) by decide +kernel) rfl, ⟨sm_sald (show decode _ _ = .ok (.iaload, 1) by decide +kernel) rfl, ⟨sm_aload_n (show decode _ _ = .ok (.aload_n 0, 1) by decide +kernel) rfl rfl, ⟨sm_iload_n (show decode _ _ = .ok (.iload_n 3, 1) by decide +kernel) rfl rfl, ⟨sm_iconst (show decode _ _ = .ok (.iconst 3, 1) by decide +kernel) (by decide +kernel) rfl, ⟨sm_iadd (show decode _ _ = .ok (.iadd, 1) by decide +kernel) rfl, ⟨sm_sald (show decode _ _ = .ok (.iaload, 1) by decide +kernel) rfl, ⟨sm_aload_n (show decode _ _ = .ok (.aload_n 0, 1) by decide +kernel) rfl rfl, ⟨sm_iload_n (show decode _ _ = .ok (.iload_n 3, 1) by decide +kernel) rfl rfl, ⟨sm_iconst (show decode _ _ = .ok (.iconst 4, 1) by decide +kernel) (by decide +kernel) rfl, ⟨sm_iadd (show decode _ _ = .ok (.iadd, 1) by decide +kernel) rfl, ⟨sm_sald (show decode _ _ = .ok (.iaload, 1) by decide +kernel) rfl, ⟨sm_aload_n (show decode _ _ = .ok (.aload_n 0, 1) by decide +kernel) rfl rfl, ⟨sm_iload_n (show decode _ _ = .ok (.iload_n 3, 1) by decide +kernel) rfl rfl, ⟨sm_iconst (show decode _ _ = .ok (.iconst 5, 1) by decide +kernel) (by decide +kernel) rfl, ⟨sm_iadd (show decode _ _ = .ok (.iadd, 1) by decide +kernel) rfl, trivial⟩⟩⟩⟩⟩⟩⟩⟩⟩⟩⟩⟩⟩⟩⟩⟩
theorem tm_law_53 : ax_all1 (ax_Sim ax_ME false RL cL_law 4 (some FieldType.boolean)) 848 [some (a_sald 849), some (a_callV 11 9 90 5 852), none, none, some (a_aload 2 853), some (a_aload 0 854), some (a_iload 3 855), some (a_iconst 1 856), some (a_iadd 857), some (a_sald 858), some (a_aload 0 859), some (a_iload 3 860), some (a_iconst 2 861), some (a_iadd 862), some (a_sald 863), some (a_aload 0 864)] := ⟨sm_sald (show decode _ _ = .ok (.iaload, 1) by decide +kernel) rfl, ⟨sm_callV (C := RX11) (T := TX11) (show decode _ _ = .ok (.invokevirtual 117, 3) by decide +kernel) rfl rfl (by decide) wd_763 wd_764 wd_40 wd_766 wd_765 ⟨by decide +kernel, by decide +kernel, by decide +kernel⟩ rfl, ⟨sm_aload_n (show decode _ _ = .ok (.aload_n 2, 1) by decide +kernel) rfl rfl, ⟨sm_aload_n (show decode _ _ = .ok (.aload_n 0, 1) by decide +kernel) rfl rfl, ⟨sm_iload_n (show decode _ _ = .ok (.iload_n 3, 1) by decide +kernel) rfl rfl, ⟨sm_iconst (show decode _ _ = .ok (.iconst 1, 1) by decide +kernel) (by decide +kernel) rfl, ⟨sm_iadd (show decode _ _ = .ok (.iadd, 1) by decide +kernel) rfl, ⟨sm_sald (show decode _ _ = .ok (.iaload, 1) by decide +kernel) rfl, ⟨sm_aload_n (show decode _ _ = .ok (.aload_n 0, 1) by decide +kernel) rfl rfl, ⟨sm_iload_n (show decode _ _ = .ok (.iload_n 3, 1) by decide +kernel) rfl rfl, ⟨sm_iconst (show decode _ _ = .ok (.iconst 2, 1) by decide +kernel) (by decide +kernel) rfl, ⟨sm_iadd (show decode _ _ = .ok (.iadd, 1) by decide +kernel) rfl, ⟨sm_sald (show decode _ _ = .ok (.iaload, 1) by decide +kernel) rfl, ⟨sm_aload_n (show decode _ _ = .ok (.aload_n 0, 1) by decide +kernel) rfl rfl, trivial⟩⟩⟩⟩⟩⟩⟩⟩⟩⟩⟩⟩⟩⟩
theorem tm_law_54 : ax_all1 (ax_Sim ax_ME false RL cL_law 4 (some FieldType.boolean)) 864 [some (a_iload 3 865), some (a_iconst 3 866), some (a_iadd 867), some (a_sald 868), some (a_aload 0 869), some (a_iload 3 870), some (a_iconst 4 871), some (a_iadd 872), some (a_sald 873), some (a_aload 0 874), some (a_iload 3 875), some (a_iconst 5 876), some (a_iadd 877), some (a_sald 878), some (a_callV 12 38 166 5 881), none] := ⟨sm_iload_n (show decode _ _ = .ok (.iload_n 3, 1) by decide +kernel) rfl rfl, ⟨sm_iconst (show decode _ _ = .ok (.iconst 3, 1) by decide +kernel) (by decide +kernel) rfl, ⟨sm_iadd (show decode _ _ = .ok (.iadd, 1) by decide +kernel) rfl, ⟨sm_sald (show decode _ _ = .ok (.iaload, 1) by decide +kernel) rfl, ⟨sm_aload_n (show decode _ _ = .ok (.aload_n 0, 1) by decide +kernel) rfl rfl, ⟨sm_iload_n (show decode _ _ = .ok (.iload_n 3, 1) by decide +kernel) rfl rfl, ⟨sm_iconst (show decode _ _ = .ok (.iconst 4, 1) by decide +kernel) (by decide +kernel) rfl, ⟨sm_iadd (show decode _ _ = .ok (.iadd, 1) by decide +kernel) rfl, ⟨sm_sald (show decode _ _ = .ok (.iaload, 1) by decide +kernel) rfl, ⟨sm_aload_n (show decode _ _ = .ok (.aload_n 0, 1) by decide +kernel) rfl rfl, ⟨sm_iload_n (show decode _ _ = .ok (.iload_n 3, 1) by decide +kernel) rfl rfl, ⟨sm_iconst (show decode _ _ = .ok (.iconst 5, 1) by decide +kernel) (by decide +kernel) rfl, ⟨sm_iadd (show decode _ _ = .ok (.iadd, 1) by decide +kernel) rfl, ⟨sm_sald (show decode _ _ = .ok (.iaload, 1) by decide +kernel) rfl, ⟨sm_callV (C := RX12) (T := TX12) (show decode _ _ = .ok (.invokevirtual 121, 3) by decide +kernel) rfl rfl (by decide) wd_1177 wd_1178 wd_56 wd_1180 wd_1179 ⟨by decide +kernel, by decide +kernel, by decide +kernel⟩ rfl, trivial⟩⟩⟩⟩⟩⟩⟩⟩⟩⟩⟩⟩⟩⟩⟩
theorem tm_law_55 : ax_all1 (ax_Sim ax_ME false RL cL_law 4 (some FieldType.boolean)) 880 [none, some (a_lcmp 882), some (a_zeq 969 885), none, none, some (a_iconst 0 886), some (a_zret), some (a_aload 1 888), some (a_aload 0 889), some (a_iload 3 890), some (a_iconst 1 891), some (a_iadd 892), some (a_sald 893), some (a_aload 0 894), some (a_iload 3 895), some (a_iconst 2 896)] := ⟨sm_lcmp (show decode _ _ = .ok (.lcmp, 1) by decide +kernel) rfl, ⟨sm_zeq (show decode _ _ = .ok (.ifCond .eq 87, 3) by decide +kernel) (by decide) rfl, ⟨sm_iconst (show decode _ _ = .ok (.iconst 0, 1) by decide +kernel) (by decide +kernel) rfl, ⟨sm_zret (show decode _ _ = .ok (.ireturn, 1) by decide +kernel) rfl, ⟨sm_aload_n (show decode _ _ = .ok (.aload_n 1, 1) by decide +kernel) rfl rfl, ⟨sm_aload_n (show decode _ _ = .ok (.aload_n 0, 1) by decide +kernel) rfl rfl, ⟨sm_iload_n (show decode _ _ = .ok (.iload_n 3, 1) by decide +kernel) rfl rfl, ⟨sm_iconst (show decode _ _ = .ok (.iconst 1, 1) by decide +kernel) (by decide +kernel) rfl, ⟨sm_iadd (show decode _ _ = .ok (.iadd, 1) by decide +kernel) rfl, ⟨sm_sald (show decode _ _ = .ok (.iaload, 1) by decide +kernel) rfl, ⟨sm_aload_n (show decode _ _ = .ok (.aload_n 0, 1) by decide +kernel) rfl rfl, ⟨sm_iload_n (show decode _ _ = .ok (.iload_n 3, 1) by decide +kernel) rfl rfl, ⟨sm_iconst (show decode _ _ = .ok (.iconst 2, 1) by decide +kernel) (by decide +kernel) rfl, trivial⟩⟩⟩⟩⟩⟩⟩⟩⟩⟩⟩⟩⟩
theorem tm_law_56 : ax_all1 (ax_Sim ax_ME false RL cL_law 4 (some FieldType.boolean)) 896 [some (a_iadd 897), some (a_sald 898), some (a_callV 11 9 91 2 901), none, none, some (a_aload 2 902), some (a_aload 0 903), some (a_iload 3 904), some (a_iconst 1 905), some (a_iadd 906), some (a_sald 907), some (a_aload 0 908), some (a_iload 3 909), some (a_iconst 2 910), some (a_iadd 911), some (a_sald 912)] := ⟨sm_iadd (show decode _ _ = .ok (.iadd, 1) by decide +kernel) rfl, ⟨sm_sald (show decode _ _ = .ok (.iaload, 1) by decide +kernel) rfl, ⟨sm_callV (C := RX11) (T := TX11) (show decode _ _ = .ok (.invokevirtual 122, 3) by decide +kernel) rfl rfl (by decide) wd_771 wd_772 wd_40 wd_774 wd_773 ⟨by decide +kernel, by decide +kernel, by decide +kernel⟩ rfl, ⟨sm_aload_n (show decode _ _ = .ok (.aload_n 2, 1) by decide +kernel) rfl rfl, ⟨sm_aload_n (show decode _ _ = .ok (.aload_n 0, 1) by decide +kernel) rfl rfl, ⟨sm_iload_n (show decode _ _ = .ok (.iload_n 3, 1) by decide +kernel) rfl rfl, ⟨sm_iconst (show decode _ _ = .ok (.iconst 1, 1) by decide +kernel) (by decide +kernel) rfl, ⟨sm_iadd (show decode _ _ = .ok (.iadd, 1) by decide +kernel) rfl, ⟨sm_sald (show decode _ _ = .ok (.iaload, 1) by decide +kernel) rfl, ⟨sm_aload_n (show decode _ _ = .ok (.aload_n 0, 1) by decide +kernel) rfl rfl, ⟨sm_iload_n (show decode _ _ = .ok (.iload_n 3, 1) by decide +kernel) rfl rfl, ⟨sm_iconst (show decode _ _ = .ok (.iconst 2, 1) by decide +kernel) (by decide +kernel) rfl, ⟨sm_iadd (show decode _ _ = .ok (.iadd, 1) by decide +kernel) rfl, ⟨sm_sald (show decode _ _ = .ok (.iaload, 1) by decide +kernel) rfl, trivial⟩⟩⟩⟩⟩⟩⟩⟩⟩⟩⟩⟩⟩⟩
theorem tm_law_57 : ax_all1 (ax_Sim ax_ME false RL cL_law 4 (some FieldType.boolean)) 912 [some (a_callV 12 38 168 2 915), none, none, some (a_ceq 969 918), none, none, some (a_iconst 0 919), some (a_zret), some (a_aload 1 921), some (a_callV 11 9 92 0 924), none, none, some (a_aload 2 925), some (a_callV 12 38 169 0 928), none, none] := ⟨sm_callV (C := RX12) (T := TX12) (show decode _ _ = .ok (.invokevirtual 125, 3) by decide +kernel) rfl rfl (by decide) wd_1183 wd_1184 wd_56 wd_1186 wd_1185 ⟨by decide +kernel, by decide +kernel, by decide +kernel⟩ rfl, ⟨sm_ceq (show decode _ _ = .ok (.if_icmp .eq 54, 3) by decide +kernel) (by decide) rfl, ⟨sm_iconst (show decode _ _ = .ok (.iconst 0, 1) by decide +kernel) (by decide +kernel) rfl, ⟨sm_zret (show decode _ _ = .ok (.ireturn, 1) by decide +kernel) rfl, ⟨sm_aload_n (show decode _ _ = .ok (.aload_n 1, 1) by decide +kernel) rfl rfl, ⟨sm_callV (C := RX11) (T := TX11) (show decode _ _ = .ok (.invokevirtual 126, 3) by decide +kernel) rfl rfl (by decide) wd_784 wd_785 wd_40 wd_787 wd_786 ⟨by decide +kernel, by decide +kernel, by decide +kernel⟩ rfl, ⟨sm_aload_n (show decode _ _ = .ok (.aload_n 2, 1) by decide +kernel) rfl rfl, ⟨sm_callV (C := RX12) (T := TX12) (show decode _ _ = .ok (.invokevirtual 129, 3) by decide +kernel) rfl rfl (by decide) wd_1195 wd_1196 wd_56 wd_1198 wd_1197 ⟨by decide +kernel, by decide +kernel, by decide +kernel⟩ rfl, trivial⟩⟩⟩⟩⟩⟩⟩⟩
theorem tm_law_58 : ax_all1 (ax_Sim ax_ME false RL cL_law 4 (some FieldType.boolean)) 928 [some (a_ceq 969 931), none, none, some (a_iconst 0 932), some (a_zret), some (a_aload 1 934), some (a_callV 11 9 93 0 937), none, none, some (a_aload 2 938), some (a_callV 12 38 170 0 941), none, none, some (a_ceq 969 944), none, none] := ⟨sm_ceq (show decode _ _ = .ok (.if_icmp .eq 41, 3) by decide +kernel) (by decide) rfl, ⟨sm_iconst (show decode _ _ = .ok (.iconst 0, 1) by decide +kernel) (by decide +kernel) rfl, ⟨sm_zret (show decode _ _ = .ok (.ireturn, 1) by decide +kernel) rfl, ⟨sm_aload_n (show decode _ _ = .ok (.aload_n 1, 1) by decide +kernel) rfl rfl, ⟨sm_callV (C := RX11) (T := TX11) (show decode _ _ = .ok (.invokevirtual 130, 3) by decide +kernel) rfl rfl (by decide) wd_799 wd_800 wd_40 wd_802 wd_801 ⟨by decide +kernel, by decide +kernel, by decide +kernel⟩ rfl, ⟨sm_aload_n (show decode _ _ = .ok (.aload_n 2, 1) by decide +kernel) rfl rfl, ⟨sm_callV (C := RX12) (T := TX12) (show decode _ _ = .ok (.invokevirtual 133, 3) by decide +kernel) rfl rfl (by decide) wd_1199 wd_1200 wd_56 wd_1202 wd_1201 ⟨by decide +kernel, by decide +kernel, by decide +kernel⟩ rfl, ⟨sm_ceq (show decode _ _ = .ok (.if_icmp .eq 28, 3) by decide +kernel) (by decide) rfl, trivial⟩⟩⟩⟩⟩⟩⟩⟩
theorem tm_law_59 : ax_all1 (ax_Sim ax_ME false RL cL_law 4 (some FieldType.boolean)) 944 [some (a_iconst 0 945), some (a_zret), some (a_aload 1 947), some (a_aload 0 948), some (a_iload 3 949), some (a_iconst 1 950), some (a_iadd 951), some (a_sald 952), some (a_callV 11 9 94 1 955), none, none, some (a_aload 2 956), some (a_aload 0 957), some (a_iload 3 958), some (a_iconst 1 959), some (a_iadd 960)] := ⟨sm_iconst (show decode _ _ = .ok (.iconst 0, 1) by decide +kernel) (by decide +kernel) rfl, ⟨sm_zret (show decode _ _ = .ok (.ireturn, 1) by decide +kernel) rfl, ⟨sm_aload_n (show decode _ _ = .ok (.aload_n 1, 1) by decide +kernel) rfl rfl, ⟨sm_aload_n (show decode _ _ = .ok (.aload_n 0, 1) by decide +kernel) rfl rfl, ⟨sm_iload_n (show decode _ _ = .ok (.iload_n 3, 1) by decide +kernel) rfl rfl, ⟨sm_iconst (show decode _ _ = .ok (.iconst 1, 1) by decide +kernel) (by decide +kernel) rfl, ⟨sm_iadd (show decode _ _ = .ok (.iadd, 1) by decide +kernel) rfl, ⟨sm_sald (show decode _ _ = .ok (.iaload, 1) by decide +kernel) rfl, ⟨sm_callV (C := RX11) (T := TX11) (show decode _ _ = .ok (.invokevirtual 134, 3) by decide +kernel) rfl rfl (by decide) wd_807 wd_808 wd_40 wd_810 wd_809 ⟨by decide +kernel, by decide +kernel, by decide +kernel⟩ rfl, ⟨sm_aload_n (show decode _ _ = .ok (.aload_n 2, 1) by decide +kernel) rfl rfl, ⟨sm_aload_n (show decode _ _ = .ok (.aload_n 0, 1) by decide +kernel) rfl rfl, ⟨sm_iload_n (show decode _ _ = .ok (.iload_n 3, 1) by decide +kernel) rfl rfl, ⟨sm_iconst (show decode _ _ = .ok (.iconst 1, 1) by decide +kernel) (by decide +kernel) rfl, ⟨sm_iadd (show decode _ _ = .ok (.iadd, 1) by decide +kernel) rfl, trivial⟩⟩⟩⟩⟩⟩⟩⟩⟩⟩⟩⟩⟩⟩
theorem tm_law_60 : ax_all1 (ax_Sim ax_ME false RL cL_law 4 (some FieldType.boolean)) 960 [some (a_sald 961), some (a_callV 12 38 171 1 964), none, none, some (a_ceq 969 967), none, none, some (a_iconst 0 968), some (a_zret), some (a_iinc 3 6 972), none, none, some (a_goto 18), none, none, some (a_iconst 1 976)] := ⟨sm_sald (show decode _ _ = .ok (.iaload, 1) by decide +kernel) rfl, ⟨sm_callV (C := RX12) (T := TX12) (show decode _ _ = .ok (.invokevirtual 137, 3) by decide +kernel) rfl rfl (by decide) wd_1203 wd_1204 wd_56 wd_1206 wd_1205 ⟨by decide +kernel, by decide +kernel, by decide +kernel⟩ rfl, ⟨sm_ceq (show decode _ _ = .ok (.if_icmp .eq 5, 3) by decide +kernel) (by decide) rfl, ⟨sm_iconst (show decode _ _ = .ok (.iconst 0, 1) by decide +kernel) (by decide +kernel) rfl, ⟨sm_zret (show decode _ _ = .ok (.ireturn, 1) by decide +kernel) rfl, ⟨sm_iinc (show decode _ _ = .ok (.iinc 3 6, 3) by decide +kernel) (by decide +kernel) (by decide) rfl, ⟨sm_goto (show decode _ _ = .ok (.goto (-954), 3) by decide +kernel) (by decide), ⟨sm_iconst (show decode _ _ = .ok (.iconst 1, 1) by decide +kernel) (by decide +kernel) rfl, trivial⟩⟩⟩⟩⟩⟩⟩⟩
theorem tm_law_61 : ax_all1 (ax_Sim ax_ME false RL cL_law 4 (some FieldType.boolean)) 976 [some (a_zret)] := ⟨sm_zret (show decode _ _ = .ok (.ireturn, 1) by decide +kernel) rfl, trivial⟩
theorem tm_law : ∀ (pc : Nat) (act : ax_Act), ax_row t_law pc = some act → ax_Sim ax_ME false RL cL_law 4 (some FieldType.boolean) pc act := ax_row_all ⟨tm_law_0, ⟨tm_law_1, ⟨tm_law_2, ⟨tm_law_3, ⟨tm_law_4, ⟨tm_law_5, ⟨tm_law_6, ⟨tm_law_7, ⟨tm_law_8, ⟨tm_law_9, ⟨tm_law_10, ⟨tm_law_11, ⟨tm_law_12, ⟨tm_law_13, ⟨tm_law_14, ⟨tm_law_15, ⟨tm_law_16, ⟨tm_law_17, ⟨tm_law_18, ⟨tm_law_19, ⟨tm_law_20, ⟨tm_law_21, ⟨tm_law_22, ⟨tm_law_23, ⟨tm_law_24, ⟨tm_law_25, ⟨tm_law_26, ⟨tm_law_27, ⟨tm_law_28, ⟨tm_law_29, ⟨tm_law_30, ⟨tm_law_31, ⟨tm_law_32, ⟨tm_law_33, ⟨tm_law_34, ⟨tm_law_35, ⟨tm_law_36, ⟨tm_law_37, ⟨tm_law_38, ⟨tm_law_39, ⟨tm_law_40, ⟨tm_law_41, ⟨tm_law_42, ⟨tm_law_43, ⟨tm_law_44, ⟨tm_law_45, ⟨tm_law_46, ⟨tm_law_47, ⟨tm_law_48, ⟨tm_law_49, ⟨tm_law_50, ⟨tm_law_51, ⟨tm_law_52, ⟨tm_law_53, ⟨tm_law_54, ⟨tm_law_55, ⟨tm_law_56, ⟨tm_law_57, ⟨tm_law_58, ⟨tm_law_59, ⟨tm_law_60, ⟨tm_law_61, trivial⟩⟩⟩⟩⟩⟩⟩⟩⟩⟩⟩⟩⟩⟩⟩⟩⟩⟩⟩⟩⟩⟩⟩⟩⟩⟩⟩⟩⟩⟩⟩⟩⟩⟩⟩⟩⟩⟩⟩⟩⟩⟩⟩⟩⟩⟩⟩⟩⟩⟩⟩⟩⟩⟩⟩⟩⟩⟩⟩⟩⟩⟩
end
