/-! STRINGS MADE, a builder that is appended to (wip/p50/build_str.py, str.txt) -/
theorem wd_302 : Cond.methodLink RJ7 310 ⟨"[B", "clone", "()Ljava/lang/Object;"⟩ ∈ xTB := xTB_in 302 (by decide +kernel) (by decide +kernel)
theorem wd_303 : Cond.sameMethod "[B" "java/lang/Object" "clone" "()Ljava/lang/Object;" ∈ xTB := xTB_in 303 (by decide +kernel) (by decide +kernel)
theorem wd_304 : Cond.native ⟨"java/lang/Object", "clone", "()Ljava/lang/Object;"⟩ ∈ xTB := xTB_in 304 (by decide +kernel) (by decide +kernel)
theorem wd_305 : Cond.instanceMethod ⟨"java/lang/Object", "clone", "()Ljava/lang/Object;"⟩ ∈ xTB := xTB_in 305 (by decide +kernel) (by decide +kernel)
theorem wd_306 : Cond.selects "[B" ⟨"[B", "clone", "()Ljava/lang/Object;"⟩ ⟨"java/lang/Object", "clone", "()Ljava/lang/Object;"⟩ ∈ xTB := xTB_in 306 (by decide +kernel) (by decide +kernel)
theorem wd_308 : Cond.classLink RJ7 311 "[B" ∈ xTB := xTB_in 308 (by decide +kernel) (by decide +kernel)
theorem wd_416 : Cond.classLink RJ4 18 RJ0 ∈ xTB := xTB_in 416 (by decide +kernel) (by decide +kernel)
theorem wd_417 : Cond.instantiable RJ0 4 ∈ xTB := xTB_in 417 (by decide +kernel) (by decide +kernel)
theorem wd_418 : Cond.methodLink RJ4 137 yJ0_init_81219 ∈ xTB := xTB_in 418 (by decide +kernel) (by decide +kernel)
theorem wd_419 : Cond.instanceMethod yJ0_init_81219 ∈ xTB := xTB_in 419 (by decide +kernel) (by decide +kernel)
theorem wd_420 : Cond.code yJ0_init_81219 cJ0_init_81219 2 none ∈ xTB := xTB_in 420 (by decide +kernel) (by decide +kernel)
theorem wd_421 : Cond.methodLink RJ0 489 yJ0_init_db425 ∈ xTB := xTB_in 421 (by decide +kernel) (by decide +kernel)
theorem wd_422 : Cond.instanceMethod yJ0_init_db425 ∈ xTB := xTB_in 422 (by decide +kernel) (by decide +kernel)
theorem wd_423 : Cond.code yJ0_init_db425 cJ0_init_db425 5 none ∈ xTB := xTB_in 423 (by decide +kernel) (by decide +kernel)
theorem wd_424 : Cond.methodLink RJ0 1 Lib.objectInit ∈ xTB := xTB_in 424 (by decide +kernel) (by decide +kernel)
theorem wd_425 : Cond.methodLink RJ0 552 yJ5_getValue_6d5f1 ∈ xTB := xTB_in 425 (by decide +kernel) (by decide +kernel)
theorem wd_426 : Cond.instanceMethod yJ5_getValue_6d5f1 ∈ xTB := xTB_in 426 (by decide +kernel) (by decide +kernel)
theorem wd_427 : Cond.sameMethod yJ5_getValue_6d5f1.cls yJ5_getValue_6d5f1.cls yJ5_getValue_6d5f1.name yJ5_getValue_6d5f1.desc ∈ xTB := xTB_in 427 (by decide +kernel) (by decide +kernel)
theorem wd_428 : Cond.selects RJ4 yJ5_getValue_6d5f1 yJ5_getValue_6d5f1 ∈ xTB := xTB_in 428 (by decide +kernel) (by decide +kernel)
theorem wd_429 : Cond.code yJ5_getValue_6d5f1 cJ5_getValue_6d5f1 1 (some (.array .byte)) ∈ xTB := xTB_in 429 (by decide +kernel) (by decide +kernel)
theorem wd_430 : Cond.methodLink RJ0 549 yJ5_length_8abf5 ∈ xTB := xTB_in 430 (by decide +kernel) (by decide +kernel)
theorem wd_433 : Cond.selects RJ4 yJ5_length_8abf5 yJ4_length_8abf5 ∈ xTB := xTB_in 433 (by decide +kernel) (by decide +kernel)
theorem wd_438 : Cond.methodLink RJ0 1047 yJ5_isLatin1_aae02 ∈ xTB := xTB_in 438 (by decide +kernel) (by decide +kernel)
theorem wd_439 : Cond.methodLink RJ0 54 yJ7_copyOfRange_39247 ∈ xTB := xTB_in 439 (by decide +kernel) (by decide +kernel)
theorem wd_440 : Cond.static yJ7_copyOfRange_39247 ∈ xTB := xTB_in 440 (by decide +kernel) (by decide +kernel)
theorem wd_441 : Cond.code yJ7_copyOfRange_39247 cJ7_copyOfRange_39247 3 (some (.array .byte)) ∈ xTB := xTB_in 441 (by decide +kernel) (by decide +kernel)
theorem wd_442 : Cond.methodLink RJ7 339 yJ7_copyOfRangeByte_39247 ∈ xTB := xTB_in 442 (by decide +kernel) (by decide +kernel)
theorem wd_443 : Cond.static yJ7_copyOfRangeByte_39247 ∈ xTB := xTB_in 443 (by decide +kernel) (by decide +kernel)
theorem wd_444 : Cond.code yJ7_copyOfRangeByte_39247 cJ7_copyOfRangeByte_39247 5 (some (.array .byte)) ∈ xTB := xTB_in 444 (by decide +kernel) (by decide +kernel)
theorem wd_445 : Cond.methodLink RJ7 343 yJ7_checkLength_df160 ∈ xTB := xTB_in 445 (by decide +kernel) (by decide +kernel)
theorem wd_446 : Cond.static yJ7_checkLength_df160 ∈ xTB := xTB_in 446 (by decide +kernel) (by decide +kernel)
theorem wd_447 : Cond.code yJ7_checkLength_df160 cJ7_checkLength_df160 2 none ∈ xTB := xTB_in 447 (by decide +kernel) (by decide +kernel)
theorem dJ7_copyOfRangeByte_39247_0 : decode cJ7_copyOfRangeByte_39247 0 = .ok (.iload_n 1, 1) := by decide +kernel
theorem dJ7_copyOfRangeByte_39247_1 : decode cJ7_copyOfRangeByte_39247 1 = .ok (.iload_n 2, 1) := by decide +kernel
theorem dJ7_copyOfRangeByte_39247_2 : decode cJ7_copyOfRangeByte_39247 2 = .ok (.invokestatic 343, 3) := by decide +kernel
theorem dJ7_copyOfRangeByte_39247_5 : decode cJ7_copyOfRangeByte_39247 5 = .ok (.iload_n 2, 1) := by decide +kernel
theorem dJ7_copyOfRangeByte_39247_6 : decode cJ7_copyOfRangeByte_39247 6 = .ok (.iload_n 1, 1) := by decide +kernel
theorem dJ7_copyOfRangeByte_39247_7 : decode cJ7_copyOfRangeByte_39247 7 = .ok (.isub, 1) := by decide +kernel
theorem dJ7_copyOfRangeByte_39247_8 : decode cJ7_copyOfRangeByte_39247 8 = .ok (.istore_n 3, 1) := by decide +kernel
theorem dJ7_copyOfRangeByte_39247_9 : decode cJ7_copyOfRangeByte_39247 9 = .ok (.iload_n 3, 1) := by decide +kernel
theorem dJ7_copyOfRangeByte_39247_10 : decode cJ7_copyOfRangeByte_39247 10 = .ok (.newarray .byte, 2) := by decide +kernel
theorem dJ7_copyOfRangeByte_39247_12 : decode cJ7_copyOfRangeByte_39247 12 = .ok (.astore 4, 2) := by decide +kernel
theorem dJ7_copyOfRangeByte_39247_14 : decode cJ7_copyOfRangeByte_39247 14 = .ok (.aload_n 0, 1) := by decide +kernel
theorem dJ7_copyOfRangeByte_39247_15 : decode cJ7_copyOfRangeByte_39247 15 = .ok (.iload_n 1, 1) := by decide +kernel
theorem dJ7_copyOfRangeByte_39247_16 : decode cJ7_copyOfRangeByte_39247 16 = .ok (.aload 4, 2) := by decide +kernel
theorem dJ7_copyOfRangeByte_39247_18 : decode cJ7_copyOfRangeByte_39247 18 = .ok (.iconst 0, 1) := by decide +kernel
theorem dJ7_copyOfRangeByte_39247_19 : decode cJ7_copyOfRangeByte_39247 19 = .ok (.aload_n 0, 1) := by decide +kernel
theorem dJ7_copyOfRangeByte_39247_20 : decode cJ7_copyOfRangeByte_39247 20 = .ok (.arraylength, 1) := by decide +kernel
theorem dJ7_copyOfRangeByte_39247_21 : decode cJ7_copyOfRangeByte_39247 21 = .ok (.iload_n 1, 1) := by decide +kernel
theorem dJ7_copyOfRangeByte_39247_22 : decode cJ7_copyOfRangeByte_39247 22 = .ok (.isub, 1) := by decide +kernel
theorem dJ7_copyOfRangeByte_39247_23 : decode cJ7_copyOfRangeByte_39247 23 = .ok (.iload_n 3, 1) := by decide +kernel
theorem dJ7_copyOfRangeByte_39247_24 : decode cJ7_copyOfRangeByte_39247 24 = .ok (.invokestatic 304, 3) := by decide +kernel
theorem dJ7_copyOfRangeByte_39247_27 : decode cJ7_copyOfRangeByte_39247 27 = .ok (.invokestatic 150, 3) := by decide +kernel
theorem dJ7_copyOfRangeByte_39247_30 : decode cJ7_copyOfRangeByte_39247 30 = .ok (.aload 4, 2) := by decide +kernel
theorem dJ7_copyOfRangeByte_39247_32 : decode cJ7_copyOfRangeByte_39247 32 = .ok (.areturn, 1) := by decide +kernel
theorem dJ7_copyOfRange_39247_0 : decode cJ7_copyOfRange_39247 0 = .ok (.iload_n 1, 1) := by decide +kernel
theorem dJ7_copyOfRange_39247_1 : decode cJ7_copyOfRange_39247 1 = .ok (.ifCond .ne 9, 3) := by decide +kernel
theorem dJ7_copyOfRange_39247_4 : decode cJ7_copyOfRange_39247 4 = .ok (.iload_n 2, 1) := by decide +kernel
theorem dJ7_copyOfRange_39247_5 : decode cJ7_copyOfRange_39247 5 = .ok (.aload_n 0, 1) := by decide +kernel
theorem dJ7_copyOfRange_39247_6 : decode cJ7_copyOfRange_39247 6 = .ok (.arraylength, 1) := by decide +kernel
theorem dJ7_copyOfRange_39247_7 : decode cJ7_copyOfRange_39247 7 = .ok (.if_icmp .eq 10, 3) := by decide +kernel
theorem dJ7_copyOfRange_39247_10 : decode cJ7_copyOfRange_39247 10 = .ok (.aload_n 0, 1) := by decide +kernel
theorem dJ7_copyOfRange_39247_11 : decode cJ7_copyOfRange_39247 11 = .ok (.iload_n 1, 1) := by decide +kernel
theorem dJ7_copyOfRange_39247_12 : decode cJ7_copyOfRange_39247 12 = .ok (.iload_n 2, 1) := by decide +kernel
theorem dJ7_copyOfRange_39247_13 : decode cJ7_copyOfRange_39247 13 = .ok (.invokestatic 339, 3) := by decide +kernel
theorem dJ7_copyOfRange_39247_16 : decode cJ7_copyOfRange_39247 16 = .ok (.areturn, 1) := by decide +kernel
theorem dJ7_copyOfRange_39247_17 : decode cJ7_copyOfRange_39247 17 = .ok (.aload_n 0, 1) := by decide +kernel
theorem dJ7_copyOfRange_39247_18 : decode cJ7_copyOfRange_39247 18 = .ok (.invokevirtual 310, 3) := by decide +kernel
theorem dJ7_copyOfRange_39247_21 : decode cJ7_copyOfRange_39247 21 = .ok (.checkcast 311, 3) := by decide +kernel
theorem dJ7_copyOfRange_39247_24 : decode cJ7_copyOfRange_39247 24 = .ok (.areturn, 1) := by decide +kernel
theorem dJ0_init_81219_0 : decode cJ0_init_81219 0 = .ok (.aload_n 0, 1) := by decide +kernel
theorem dJ0_init_81219_1 : decode cJ0_init_81219 1 = .ok (.aload_n 1, 1) := by decide +kernel
theorem dJ0_init_81219_2 : decode cJ0_init_81219 2 = .ok (.aconst_null, 1) := by decide +kernel
theorem dJ0_init_81219_3 : decode cJ0_init_81219 3 = .ok (.invokespecial 489, 3) := by decide +kernel
theorem dJ0_init_81219_6 : decode cJ0_init_81219 6 = .ok (.return_, 1) := by decide +kernel
theorem dJ0_init_db425_0 : decode cJ0_init_db425 0 = .ok (.aload_n 0, 1) := by decide +kernel
theorem dJ0_init_db425_1 : decode cJ0_init_db425 1 = .ok (.invokespecial 1, 3) := by decide +kernel
theorem dJ0_init_db425_4 : decode cJ0_init_db425 4 = .ok (.aload_n 1, 1) := by decide +kernel
theorem dJ0_init_db425_5 : decode cJ0_init_db425 5 = .ok (.invokevirtual 552, 3) := by decide +kernel
theorem dJ0_init_db425_8 : decode cJ0_init_db425 8 = .ok (.astore_n 3, 1) := by decide +kernel
theorem dJ0_init_db425_9 : decode cJ0_init_db425 9 = .ok (.aload_n 1, 1) := by decide +kernel
theorem dJ0_init_db425_10 : decode cJ0_init_db425 10 = .ok (.invokevirtual 549, 3) := by decide +kernel
theorem dJ0_init_db425_13 : decode cJ0_init_db425 13 = .ok (.istore 4, 2) := by decide +kernel
theorem dJ0_init_db425_15 : decode cJ0_init_db425 15 = .ok (.aload_n 1, 1) := by decide +kernel
theorem dJ0_init_db425_16 : decode cJ0_init_db425 16 = .ok (.invokevirtual 1047, 3) := by decide +kernel
theorem dJ0_init_db425_19 : decode cJ0_init_db425 19 = .ok (.ifCond .eq 22, 3) := by decide +kernel
theorem dJ0_init_db425_22 : decode cJ0_init_db425 22 = .ok (.aload_n 0, 1) := by decide +kernel
theorem dJ0_init_db425_23 : decode cJ0_init_db425 23 = .ok (.iconst 0, 1) := by decide +kernel
theorem dJ0_init_db425_24 : decode cJ0_init_db425 24 = .ok (.putfield 15, 3) := by decide +kernel
theorem dJ0_init_db425_27 : decode cJ0_init_db425 27 = .ok (.aload_n 0, 1) := by decide +kernel
theorem dJ0_init_db425_28 : decode cJ0_init_db425 28 = .ok (.aload_n 3, 1) := by decide +kernel
theorem dJ0_init_db425_29 : decode cJ0_init_db425 29 = .ok (.iconst 0, 1) := by decide +kernel
theorem dJ0_init_db425_30 : decode cJ0_init_db425 30 = .ok (.iload 4, 2) := by decide +kernel
theorem dJ0_init_db425_32 : decode cJ0_init_db425 32 = .ok (.invokestatic 54, 3) := by decide +kernel
theorem dJ0_init_db425_35 : decode cJ0_init_db425 35 = .ok (.putfield 9, 3) := by decide +kernel
theorem dJ0_init_db425_38 : decode cJ0_init_db425 38 = .ok (.goto 59, 3) := by decide +kernel
theorem dJ0_init_db425_41 : decode cJ0_init_db425 41 = .ok (.getstatic 38, 3) := by decide +kernel
theorem dJ0_init_db425_44 : decode cJ0_init_db425 44 = .ok (.ifCond .eq 35, 3) := by decide +kernel
theorem dJ0_init_db425_47 : decode cJ0_init_db425 47 = .ok (.aload_n 1, 1) := by decide +kernel
theorem dJ0_init_db425_48 : decode cJ0_init_db425 48 = .ok (.getfield 1048, 3) := by decide +kernel
theorem dJ0_init_db425_51 : decode cJ0_init_db425 51 = .ok (.ifCond .eq 28, 3) := by decide +kernel
theorem dJ0_init_db425_54 : decode cJ0_init_db425 54 = .ok (.aload_n 0, 1) := by decide +kernel
theorem dJ0_init_db425_55 : decode cJ0_init_db425 55 = .ok (.aload_n 3, 1) := by decide +kernel
theorem dJ0_init_db425_56 : decode cJ0_init_db425 56 = .ok (.iconst 0, 1) := by decide +kernel
theorem dJ0_init_db425_57 : decode cJ0_init_db425 57 = .ok (.iload 4, 2) := by decide +kernel
theorem dJ0_init_db425_59 : decode cJ0_init_db425 59 = .ok (.invokestatic 1051, 3) := by decide +kernel
theorem dJ0_init_db425_62 : decode cJ0_init_db425 62 = .ok (.putfield 9, 3) := by decide +kernel
theorem dJ0_init_db425_65 : decode cJ0_init_db425 65 = .ok (.aload_n 0, 1) := by decide +kernel
theorem dJ0_init_db425_66 : decode cJ0_init_db425 66 = .ok (.aload_n 0, 1) := by decide +kernel
theorem dJ0_init_db425_67 : decode cJ0_init_db425 67 = .ok (.getfield 9, 3) := by decide +kernel
theorem dJ0_init_db425_70 : decode cJ0_init_db425 70 = .ok (.iload 4, 2) := by decide +kernel
theorem dJ0_init_db425_72 : decode cJ0_init_db425 72 = .ok (.invokestatic 47, 3) := by decide +kernel
theorem dJ0_init_db425_75 : decode cJ0_init_db425 75 = .ok (.putfield 15, 3) := by decide +kernel
theorem dJ0_init_db425_78 : decode cJ0_init_db425 78 = .ok (.return_, 1) := by decide +kernel
theorem dJ0_init_db425_79 : decode cJ0_init_db425 79 = .ok (.aload_n 0, 1) := by decide +kernel
theorem dJ0_init_db425_80 : decode cJ0_init_db425 80 = .ok (.iconst 1, 1) := by decide +kernel
theorem dJ0_init_db425_81 : decode cJ0_init_db425 81 = .ok (.putfield 15, 3) := by decide +kernel
theorem dJ0_init_db425_84 : decode cJ0_init_db425 84 = .ok (.aload_n 0, 1) := by decide +kernel
theorem dJ0_init_db425_85 : decode cJ0_init_db425 85 = .ok (.aload_n 3, 1) := by decide +kernel
theorem dJ0_init_db425_86 : decode cJ0_init_db425 86 = .ok (.iconst 0, 1) := by decide +kernel
theorem dJ0_init_db425_87 : decode cJ0_init_db425 87 = .ok (.iload 4, 2) := by decide +kernel
theorem dJ0_init_db425_89 : decode cJ0_init_db425 89 = .ok (.iconst 1, 1) := by decide +kernel
theorem dJ0_init_db425_90 : decode cJ0_init_db425 90 = .ok (.ishl, 1) := by decide +kernel
theorem dJ0_init_db425_91 : decode cJ0_init_db425 91 = .ok (.invokestatic 54, 3) := by decide +kernel
theorem dJ0_init_db425_94 : decode cJ0_init_db425 94 = .ok (.putfield 9, 3) := by decide +kernel
theorem dJ0_init_db425_97 : decode cJ0_init_db425 97 = .ok (.return_, 1) := by decide +kernel
theorem dJ4_toString_0e30d_0 : decode cJ4_toString_0e30d 0 = .ok (.new 18, 3) := by decide +kernel
theorem dJ4_toString_0e30d_3 : decode cJ4_toString_0e30d 3 = .ok (.dup, 1) := by decide +kernel
theorem dJ4_toString_0e30d_4 : decode cJ4_toString_0e30d 4 = .ok (.aload_n 0, 1) := by decide +kernel
theorem dJ4_toString_0e30d_5 : decode cJ4_toString_0e30d 5 = .ok (.invokespecial 137, 3) := by decide +kernel
theorem dJ4_toString_0e30d_8 : decode cJ4_toString_0e30d 8 = .ok (.areturn, 1) := by decide +kernel
def f_J7_copyOfRange (n : Nat) (f : (Nat → Int32)) (c : Nat) : Option (Nat × (Nat → Int32)) := if (c ≤ n ∧ n ≤ 290) ∧ ∀ i, i < n → fits .byte (.int (f i)) = true then (if c = n then some (n, f) else some (c, va_cpy f (fun _ => 0) 0 0 c)) else none
theorem c_J7_copyOfRangeByte (g : xG) (l : Launch) (z n : Nat) (f : (Nat → Int32)) (c : Nat) (h1 : c ≤ n) (h2 : n ≤ 290) (h3 : ∀ i, i < n → fits .byte (.int (f i)) = true) : Con g l yJ7_copyOfRangeByte_39247 cJ7_copyOfRangeByte_39247 5 (some (.array .byte)) ({ frames := 2, cells := 1, slots := 290, locals := 80 } : Room) [.ref z, .int 0, .int (Int32.ofNat c)] ([baW g z n f] : List va_W).flatten (fun v9 w9 => ∃ z9, v9 = some (.ref z9) ∧ w9 = ([baW g z n f, baW g z9 c (va_cpy f (fun _ => 0) 0 0 c)] : List va_W).flatten) 1 290 := by
  have e1 : (Int32.ofNat c) - (0 : Int32) = Int32.ofNat c := Int32.sub_zero _
  have e2 : (Int32.ofNat n) - (0 : Int32) = Int32.ofNat n := Int32.sub_zero _
  have e3 : jmin (Int32.ofNat n) (Int32.ofNat c) = Int32.ofNat c := by
    rw [zt_jmin (by omega) (by omega), Nat.min_eq_right h1]
  have e4 : (Int32.ofNat c).toNatClampNeg = c := zt_cl (by omega)
  have e5 : ¬ Int32.ofNat c < 0 := fun q => absurd ((zt_lt (b := 0) (by omega) (by omega)).mp q) (by omega)
  refine Con_of [baW g z n f] [(0, .ref z), (1, .int 0), (2, .int (Int32.ofNat c))] rfl rfl (by decide) (Nat.le_of_ble_eq_true rfl) ?_
  intro pW eW sW mW argsW belowW methW c9 C hnm hr
  have C : CX g RJ7 cJ7_copyOfRangeByte_39247 5 _ pW sW mW argsW methW c9 := C
  refine x_iload_n C dJ7_copyOfRangeByte_39247_0 rfl 1 rfl ?_
  refine x_iload_n C dJ7_copyOfRangeByte_39247_1 rfl 2 rfl ?_
  refine x_callS (n := 2) (As := [.int 0, .int (Int32.ofNat c)]) (rest := []) C (c_J7_checkLength_df160 g l 0 (Int32.ofNat c) (u := ()) (by unfold f_J7_checkLength_df160; rw [if_pos]; exact (zt_le (a := 0) (by omega) (by omega)).mpr (by omega))) ⟨⟨wd_447, wd_445, wd_53⟩, ⟨by decide, by decide, by decide⟩, rfl, rfl, Nat.le_of_ble_eq_true rfl, Nat.le_of_ble_eq_true rfl⟩ wd_446 [baW g z n f] (x_pickD [0] 1 rfl rfl rfl) rfl rfl (Nat.le_of_ble_eq_true rfl) ⟨Nat.le_of_ble_eq_true rfl, Nat.le_of_ble_eq_true rfl⟩ dJ7_copyOfRangeByte_39247_2 (x_goD (wss2 := [baW g z n f]) (stk2 := []) rfl rfl ?_)
  refine x_iload_n C dJ7_copyOfRangeByte_39247_5 rfl 2 rfl ?_
  refine x_iload_n C dJ7_copyOfRangeByte_39247_6 rfl 1 rfl ?_
  refine x_isub C dJ7_copyOfRangeByte_39247_7 ?_
  rw [e1]
  refine x_istore_n (lv' := [(3, .int (Int32.ofNat c)), (0, .ref z), (1, .int 0), (2, .int (Int32.ofNat c))]) C dJ7_copyOfRangeByte_39247_8 rfl (by decide) rfl ?_
  refine x_iload_n C dJ7_copyOfRangeByte_39247_9 rfl 0 rfl ?_
  refine x_newa (atype := .byte) (a0 := (c, .inl (fun _ => 0))) (N := c) C 3 rfl wd_144 (fun _ => rfl) e5 e4 (by show c * 1 ≤ _; omega) (Nat.le_of_ble_eq_true rfl) (by show 0 + 0 + c ≤ 290; omega) dJ7_copyOfRangeByte_39247_10 (fun z1 => ?_)
  refine x_same (wss' := [baW g z n f, baW g z1 c (fun _ => 0)]) rfl ?_
  refine x_widen (k := 1) (n := 290) (Nat.le_of_ble_eq_true rfl) (by omega) ?_
  refine x_astore (lv' := [(4, .ref z1), (3, .int (Int32.ofNat c)), (0, .ref z), (1, .int 0), (2, .int (Int32.ofNat c))]) C dJ7_copyOfRangeByte_39247_12 (by decide) rfl ?_
  refine x_aload_n C dJ7_copyOfRangeByte_39247_14 rfl 2 rfl ?_
  refine x_iload_n C dJ7_copyOfRangeByte_39247_15 rfl 3 rfl ?_
  refine x_aload C dJ7_copyOfRangeByte_39247_16 0 rfl ?_
  refine x_iconst (v := 0) C dJ7_copyOfRangeByte_39247_18 (by decide) ?_
  refine x_aload_n C dJ7_copyOfRangeByte_39247_19 rfl 2 rfl ?_
  refine x_alen (v := Int32.ofNat n) C 3 rfl 0 rfl 0 (baW_at0 g z n _) rfl dJ7_copyOfRangeByte_39247_20 ?_
  refine x_iload_n C dJ7_copyOfRangeByte_39247_21 rfl 3 rfl ?_
  refine x_isub C dJ7_copyOfRangeByte_39247_22 ?_
  rw [e2]
  refine x_iload_n C dJ7_copyOfRangeByte_39247_23 rfl 1 rfl ?_
  refine x_min C wd_309 wd_218 wd_49 wd_219 ⟨Nat.le_of_ble_eq_true rfl, Nat.le_of_ble_eq_true rfl⟩ ⟨Nat.le_of_ble_eq_true rfl, Nat.le_of_ble_eq_true rfl⟩ dJ7_copyOfRangeByte_39247_24 ?_
  rw [e3]
  refine x_copyi (b' := baW g z1 c (va_cpy f (fun _ => 0) 0 0 c)) (wss' := [baW g z n f, baW g z1 c (va_cpy f (fun _ => 0) 0 0 c)]) C wd_310 wd_312 wd_311 wd_54 3 rfl rfl 1 rfl 0 (baW_at0 g z1 _ _) 0 rfl 0 (baW_at0 g z n _) (by decide) (by decide) e5 (by rw [e4]; show 0 + _ ≤ n; omega) (by rw [e4]; show 0 + _ ≤ c; omega) (fun i hi => by have := h3 i (by rw [e4] at hi; omega); show fits .byte (.int (f (0 + i))) = true; rw [Nat.zero_add]; exact this) ⟨Nat.le_of_ble_eq_true rfl, Nat.le_of_ble_eq_true rfl⟩ (by rw [e4]; rfl) rfl dJ7_copyOfRangeByte_39247_27 ?_
  refine x_aload C dJ7_copyOfRangeByte_39247_30 0 rfl ?_
  exact x_aret C hr (Or.inr ⟨_, rfl⟩) ⟨z1, rfl, rfl⟩ dJ7_copyOfRangeByte_39247_32
theorem c_J7_copyOfRange (g : xG) (l : Launch) (z n : Nat) (f : (Nat → Int32)) (c : Nat) {u : Nat × (Nat → Int32)} (hf : f_J7_copyOfRange n f c = some u) : Con g l yJ7_copyOfRange_39247 cJ7_copyOfRange_39247 3 (some (.array .byte)) ({ frames := 3, cells := 1, slots := 290, locals := 110 } : Room) [.ref z, .int 0, .int (Int32.ofNat c)] ([baW g z n f] : List va_W).flatten (fun v9 w9 => ∃ z9, v9 = some (.ref z9) ∧ w9 = ([baW g z n f, baW g z9 u.1 u.2] : List va_W).flatten) 1 290 := by
  unfold f_J7_copyOfRange at hf
  obtain ⟨⟨⟨h1, h2⟩, h3⟩, hf⟩ := x_y hf
  refine Con_of [baW g z n f] [(0, .ref z), (1, .int 0), (2, .int (Int32.ofNat c))] rfl rfl (by decide) (Nat.le_of_ble_eq_true rfl) ?_
  intro pW eW sW mW argsW belowW methW c9 C hnm hr
  have C : CX g RJ7 cJ7_copyOfRange_39247 3 _ pW sW mW argsW methW c9 := C
  refine x_iload_n C dJ7_copyOfRange_39247_0 rfl 1 rfl ?_
  refine x_if_ne (tgt := 10) C dJ7_copyOfRange_39247_1 (by decide) (fun h => absurd rfl h) (fun _ => ?_)
  refine x_iload_n C dJ7_copyOfRange_39247_4 rfl 2 rfl ?_
  refine x_aload_n C dJ7_copyOfRange_39247_5 rfl 0 rfl ?_
  refine x_alen (v := Int32.ofNat n) C 3 rfl 0 rfl 0 (baW_at0 g z n _) rfl dJ7_copyOfRange_39247_6 ?_
  refine x_icmp_eq (tgt := 17) C dJ7_copyOfRange_39247_7 (by decide) (fun h => ?_) (fun h => ?_)
  · have hc : c = n := (zt_eq (by omega) (by omega)).mp h
    have hf := x_t hc hf
    obtain rfl := Option.some.inj hf
    refine x_aload_n C dJ7_copyOfRange_39247_17 rfl 0 rfl ?_
    refine x_clone C wd_302 wd_303 wd_304 wd_305 wd_306 0 rfl 0 (baW_at0 g z n _) h3 ⟨Nat.le_of_ble_eq_true rfl, Nat.le_of_ble_eq_true rfl⟩ (Nat.le_of_ble_eq_true rfl) (by show 0 + n ≤ 290; omega) dJ7_copyOfRange_39247_18 (fun z1 => ?_)
    refine x_same (wss' := [baW g z n f, baW g z1 n f]) rfl ?_
    refine x_castB C wd_308 1 rfl 0 (baW_at0 g z1 n _) dJ7_copyOfRange_39247_21 ?_
    refine x_widen (k := 1) (n := 290) (Nat.le_of_ble_eq_true rfl) (by omega) ?_
    exact x_aret C hr (Or.inr ⟨_, rfl⟩) ⟨z1, rfl, rfl⟩ dJ7_copyOfRange_39247_24
  · have hc : ¬ c = n := fun q => h (by rw [q])
    have hf := x_f hc hf
    obtain rfl := Option.some.inj hf
    refine x_aload_n C dJ7_copyOfRange_39247_10 rfl 0 rfl ?_
    refine x_iload_n C dJ7_copyOfRange_39247_11 rfl 1 rfl ?_
    refine x_iload_n C dJ7_copyOfRange_39247_12 rfl 2 rfl ?_
    refine x_callS (n := 3) (As := [.ref z, .int 0, .int (Int32.ofNat c)]) (rest := []) C (c_J7_copyOfRangeByte g l z n f c h1 h2 h3) ⟨⟨wd_444, wd_442, wd_53⟩, ⟨by decide, by decide, by decide⟩, rfl, rfl, Nat.le_of_ble_eq_true rfl, Nat.le_of_ble_eq_true rfl⟩ wd_443 [] (x_pickD [0] 1 rfl rfl rfl) rfl rfl (Nat.le_of_ble_eq_true rfl) ⟨Nat.le_of_ble_eq_true rfl, Nat.le_of_ble_eq_true rfl⟩ dJ7_copyOfRange_39247_13 (fun v9 w9 hQ9 => ?_)
    obtain ⟨z1, rfl, rfl⟩ := hQ9
    refine x_goW (wss2 := [baW g z n f, baW g z1 c (va_cpy f (fun _ => 0) 0 0 c)]) (stk2 := [.ref z1]) rfl rfl rfl ?_
    exact x_aret C hr (Or.inr ⟨_, rfl⟩) ⟨z1, rfl, rfl⟩ dJ7_copyOfRange_39247_16
/-- what toString reads off a builder -/
def f_J4_toString (n : Nat) (k : SbT) (f : (Nat → Int32)) : Option (Nat × (Nat → Int32)) := if 0 ≤ k.2.toInt then f_J7_copyOfRange n f k.2.toInt.toNat else none
theorem c_J0_init2 (g : xG) (l : Launch) (x y z n : Nat) (k : SbT) (f : (Nat → Int32)) {u : Nat × (Nat → Int32)} (hf : f_J4_toString n k f = some u) : Con g l yJ0_init_db425 cJ0_init_db425 5 none ({ frames := 4, cells := 1, slots := 290, locals := 150 } : Room) [.ref x, .ref y, .null] ([[(x, .inr (0, [.null, .int 0, .int 0, .int 0]))], sbO g y z k, baW g z n f] : List va_W).flatten (fun v9 w9 => v9 = none ∧ ∃ z9, w9 = ([stgO g x z9 (), sbO g y z k, baW g z n f, baW g z9 u.1 u.2] : List va_W).flatten) 1 290 := by
  unfold f_J4_toString at hf
  obtain ⟨h0, hf⟩ := x_y hf
  have hk : k.2 = Int32.ofNat k.2.toInt.toNat := zt_nat h0
  refine Con_of [[(x, .inr (0, [.null, .int 0, .int 0, .int 0]))], sbO g y z k, baW g z n f] [(0, .ref x), (1, .ref y), (2, .null)] rfl rfl (by decide) (Nat.le_of_ble_eq_true rfl) ?_
  intro pW eW sW mW argsW belowW methW c9 C hinit hr
  have C : CX g RJ0 cJ0_init_db425 5 _ pW sW mW argsW methW c9 := C
  refine x_aload_n C dJ0_init_db425_0 rfl 0 rfl ?_
  refine x_objInit C wd_424 wd_97 wd_98 ⟨Nat.le_of_ble_eq_true rfl, Nat.le_of_ble_eq_true rfl⟩ dJ0_init_db425_1 ?_
  refine x_aload_n C dJ0_init_db425_4 rfl 1 rfl ?_
  refine x_callUW (owner := RJ5) (Cn := RJ4) (n := 0) (As := []) (rest := []) C (c_J5_getValue_6d5f1 g l y z k (u := ()) rfl) ⟨⟨wd_429, wd_425, wd_427, wd_428, wd_426, wd_34⟩, rfl, ⟨by decide, by decide, by decide⟩, rfl, rfl, Nat.le_of_ble_eq_true rfl, Nat.le_of_ble_eq_true rfl⟩ ⟨0, 1, _, _, rfl, rfl, rfl⟩ [[(x, .inr (0, [.null, .int 0, .int 0, .int 0]))], baW g z n f] (x_pickD [1, 0, 2] 3 rfl rfl rfl) rfl rfl (Nat.le_of_ble_eq_true rfl) ⟨Nat.le_of_ble_eq_true rfl, Nat.le_of_ble_eq_true rfl⟩ dJ0_init_db425_5 (x_goD (wss2 := [sbO g y z k, [(x, .inr (0, [.null, .int 0, .int 0, .int 0]))], baW g z n f]) (stk2 := [.ref z]) rfl rfl ?_)
  refine x_astore_n (lv' := [(3, .ref z), (0, .ref x), (1, .ref y), (2, .null)]) C dJ0_init_db425_8 rfl (by decide) rfl ?_
  refine x_aload_n C dJ0_init_db425_9 rfl 2 rfl ?_
  refine x_callOW (owner := RJ5) (Cn := RJ4) (x := yJ5_length_8abf5) (n := 0) (As := []) (rest := []) C (c_J4_length_8abf5 g l y z k (u := k.2) rfl) ⟨⟨wd_435, wd_430, wd_432, wd_431, wd_433, wd_434, wd_35, _, _, _, wd_437⟩, ⟨by decide, by decide, by decide⟩, rfl, rfl, Nat.le_of_ble_eq_true rfl, Nat.le_of_ble_eq_true rfl⟩ ⟨0, 1, _, _, rfl, rfl, rfl⟩ [[(x, .inr (0, [.null, .int 0, .int 0, .int 0]))], baW g z n f] (x_pickD [0, 1, 2] 3 rfl rfl rfl) rfl rfl (Nat.le_of_ble_eq_true rfl) ⟨Nat.le_of_ble_eq_true rfl, Nat.le_of_ble_eq_true rfl⟩ dJ0_init_db425_10 (x_goD (wss2 := [sbO g y z k, [(x, .inr (0, [.null, .int 0, .int 0, .int 0]))], baW g z n f]) (stk2 := [.int k.2]) rfl rfl ?_)
  refine x_istore (lv' := [(4, .int k.2), (3, .ref z), (0, .ref x), (1, .ref y), (2, .null)]) C dJ0_init_db425_13 (by decide) rfl ?_
  refine x_aload_n C dJ0_init_db425_15 rfl 3 rfl ?_
  refine x_callUW (owner := RJ5) (Cn := RJ4) (n := 0) (As := []) (rest := []) C (c_J5_isLatin1_aae02 g l y z k (u := 1) (by unfold f_J5_isLatin1_aae02; rw [if_neg (by decide), if_pos rfl])) ⟨⟨wd_317, wd_438, wd_315, wd_316, wd_314, wd_34⟩, rfl, ⟨by decide, by decide, by decide⟩, rfl, rfl, Nat.le_of_ble_eq_true rfl, Nat.le_of_ble_eq_true rfl⟩ ⟨0, 1, _, _, rfl, rfl, rfl⟩ [[(x, .inr (0, [.null, .int 0, .int 0, .int 0]))], baW g z n f] (x_pickD [0, 1, 2] 3 rfl rfl rfl) rfl rfl (Nat.le_of_ble_eq_true rfl) ⟨Nat.le_of_ble_eq_true rfl, Nat.le_of_ble_eq_true rfl⟩ dJ0_init_db425_16 (x_goD (wss2 := [sbO g y z k, [(x, .inr (0, [.null, .int 0, .int 0, .int 0]))], baW g z n f]) (stk2 := [.int 1]) rfl rfl ?_)
  refine x_if_eq (tgt := 41) C dJ0_init_db425_19 (by decide) (fun h => absurd h (by decide)) (fun _ => ?_)
  refine x_aload_n C dJ0_init_db425_22 rfl 2 rfl ?_
  refine x_iconst (v := 0) C dJ0_init_db425_23 (by decide) ?_
  refine x_putF (ci := 0) (ty := .byte) (v := .int 0) (b := [(x, .inr (0, [.null, .int 0, .int 0, .int 0]))]) (b' := [(x, .inr (0, [.null, .int 0, .int 0, .int 0]))]) (wss' := [sbO g y z k, [(x, .inr (0, [.null, .int 0, .int 0, .int 0]))], baW g z n f]) C hinit ixJ0 tyJ0 tyJ0_ok nmJ0 rfl 1 (by decide) wd_483 (fun _ h => h) rfl rfl (tyJ0_ok 1 (by decide)) rfl rfl 1 rfl 0 rfl (Nat.le_of_ble_eq_true rfl) rfl rfl dJ0_init_db425_24 ?_
  refine x_aload_n C dJ0_init_db425_27 rfl 2 rfl ?_
  refine x_aload_n C dJ0_init_db425_28 rfl 1 rfl ?_
  refine x_iconst (v := 0) C dJ0_init_db425_29 (by decide) ?_
  refine x_iload C dJ0_init_db425_30 0 rfl ?_
  refine x_callS (n := 3) (As := [.ref z, .int 0, .int (Int32.ofNat k.2.toInt.toNat)]) (rest := [.ref x]) C (c_J7_copyOfRange g l z n f _ hf) ⟨⟨wd_441, wd_439, wd_53⟩, ⟨by decide, by decide, by decide⟩, rfl, rfl, Nat.le_of_ble_eq_true rfl, Nat.le_of_ble_eq_true rfl⟩ wd_440 [sbO g y z k, [(x, .inr (0, [.null, .int 0, .int 0, .int 0]))]] (x_pickD [2, 0, 1] 3 rfl rfl rfl) rfl (by rw [← hk]; rfl) (Nat.le_of_ble_eq_true rfl) ⟨Nat.le_of_ble_eq_true rfl, Nat.le_of_ble_eq_true rfl⟩ dJ0_init_db425_32 (fun v9 w9 hQ9 => ?_)
  obtain ⟨z1, rfl, rfl⟩ := hQ9
  refine x_goW (wss2 := [baW g z n f, baW g z1 u.1 u.2, sbO g y z k, [(x, .inr (0, [.null, .int 0, .int 0, .int 0]))]]) (stk2 := [.ref z1, .ref x]) rfl rfl rfl ?_
  refine x_putF (ci := 0) (ty := .array .byte) (v := .ref z1) (b := [(x, .inr (0, [.null, .int 0, .int 0, .int 0]))]) (b' := stgO g x z1 ()) (wss' := [baW g z n f, baW g z1 u.1 u.2, sbO g y z k, stgO g x z1 ()]) C hinit ixJ0 tyJ0 tyJ0_ok nmJ0 rfl 0 (by decide) wd_482 (fun _ h => h) rfl rfl (tyJ0_ok 0 (by decide)) rfl rfl 3 rfl 0 rfl (Nat.le_of_ble_eq_true rfl) rfl rfl dJ0_init_db425_35 ?_
  refine x_goto (tgt := 97) C dJ0_init_db425_38 (by decide) ?_
  refine x_perm (wss' := [stgO g x z1 (), sbO g y z k, baW g z n f, baW g z1 u.1 u.2]) (x_pick [3, 2, 0, 1] 4 rfl rfl rfl) ?_
  exact x_vret C hr ⟨rfl, z1, rfl⟩ dJ0_init_db425_97
theorem c_J0_init1 (g : xG) (l : Launch) (x y z n : Nat) (k : SbT) (f : (Nat → Int32)) {u : Nat × (Nat → Int32)} (hf : f_J4_toString n k f = some u) : Con g l yJ0_init_81219 cJ0_init_81219 2 none ({ frames := 5, cells := 1, slots := 290, locals := 180 } : Room) [.ref x, .ref y] ([[(x, .inr (0, [.null, .int 0, .int 0, .int 0]))], sbO g y z k, baW g z n f] : List va_W).flatten (fun v9 w9 => v9 = none ∧ ∃ z9, w9 = ([stgO g x z9 (), sbO g y z k, baW g z n f, baW g z9 u.1 u.2] : List va_W).flatten) 1 290 := by
  refine Con_of [[(x, .inr (0, [.null, .int 0, .int 0, .int 0]))], sbO g y z k, baW g z n f] [(0, .ref x), (1, .ref y)] rfl rfl (by decide) (Nat.le_of_ble_eq_true rfl) ?_
  intro pW eW sW mW argsW belowW methW c9 C hinit hr
  have C : CX g RJ0 cJ0_init_81219 2 _ pW sW mW argsW methW c9 := C
  refine x_aload_n C dJ0_init_81219_0 rfl 0 rfl ?_
  refine x_aload_n C dJ0_init_81219_1 rfl 1 rfl ?_
  refine x_null C dJ0_init_81219_2 ?_
  refine x_callI (n := 2) (As := [.ref y, .null]) (rest := []) C (c_J0_init2 g l x y z n k f hf) ⟨⟨wd_423, wd_421, wd_36⟩, ⟨by decide, by decide, by decide⟩, rfl, rfl, Nat.le_of_ble_eq_true rfl, Nat.le_of_ble_eq_true rfl⟩ wd_422 rfl [] (x_pickD [0, 1, 2] 3 rfl rfl rfl) rfl rfl (Nat.le_of_ble_eq_true rfl) ⟨Nat.le_of_ble_eq_true rfl, Nat.le_of_ble_eq_true rfl⟩ dJ0_init_81219_3 (fun v9 w9 hQ9 => ?_)
  obtain ⟨rfl, z1, rfl⟩ := hQ9
  refine x_goW (wss2 := [stgO g x z1 (), sbO g y z k, baW g z n f, baW g z1 u.1 u.2]) (stk2 := []) rfl rfl rfl ?_
  exact x_vret C hr ⟨rfl, z1, rfl⟩ dJ0_init_81219_6
theorem c_J4_toString (g : xG) (l : Launch) (y z n : Nat) (k : SbT) (f : (Nat → Int32)) {u : Nat × (Nat → Int32)} (hf : f_J4_toString n k f = some u) : Con g l yJ4_toString_0e30d cJ4_toString_0e30d 1 (some (.object "java/lang/String")) ({ frames := 6, cells := 2, slots := 294, locals := 210 } : Room) [.ref y] ([sbO g y z k, baW g z n f] : List va_W).flatten (fun v9 w9 => ∃ x9 z9, v9 = some (.ref x9) ∧ w9 = ([stgO g x9 z9 (), sbO g y z k, baW g z n f, baW g z9 u.1 u.2] : List va_W).flatten) 2 294 := by
  refine Con_of [sbO g y z k, baW g z n f] [(0, .ref y)] rfl rfl (by decide) (Nat.le_of_ble_eq_true rfl) ?_
  intro pW eW sW mW argsW belowW methW c9 C hnm hr
  have C : CX g RJ4 cJ4_toString_0e30d 1 _ pW sW mW argsW methW c9 := C
  refine x_new (ci := 0) (fs := [.null, .int 0, .int 0, .int 0]) C ixJ0 tyJ0 tyJ0_ok rfl wd_416 wd_417 wd_36 dfJ0 (Nat.le_of_ble_eq_true rfl) (Nat.le_of_ble_eq_true rfl) dJ4_toString_0e30d_0 (fun x => ?_)
  refine x_same (wss' := [sbO g y z k, baW g z n f, [(x, .inr (0, [.null, .int 0, .int 0, .int 0]))]]) rfl ?_
  refine x_dup C dJ4_toString_0e30d_3 rfl ?_
  refine x_aload_n C dJ4_toString_0e30d_4 rfl 0 rfl ?_
  refine x_callI (n := 1) (As := [.ref y]) (rest := [.ref x]) C (c_J0_init1 g l x y z n k f hf) ⟨⟨wd_420, wd_418, wd_36⟩, ⟨by decide, by decide, by decide⟩, rfl, rfl, Nat.le_of_ble_eq_true rfl, Nat.le_of_ble_eq_true rfl⟩ wd_419 rfl [] (x_pickD [2, 0, 1] 3 rfl rfl rfl) rfl rfl (Nat.le_of_ble_eq_true rfl) ⟨Nat.le_of_ble_eq_true rfl, Nat.le_of_ble_eq_true rfl⟩ dJ4_toString_0e30d_5 (fun v9 w9 hQ9 => ?_)
  obtain ⟨rfl, z1, rfl⟩ := hQ9
  refine x_goW (wss2 := [stgO g x z1 (), sbO g y z k, baW g z n f, baW g z1 u.1 u.2]) (stk2 := [.ref x]) rfl rfl rfl ?_
  exact x_aret C hr (Or.inl ⟨_, rfl⟩) ⟨x, z1, rfl, rfl⟩ dJ4_toString_0e30d_8
section XB2
variable {p : Program} {l : Launch} {e : Env} {R : Room} {s : State} {m9 : MethodId} {args : Array Value} {below : List Frame} {meth : Method} {c : Code} {cells slots : Nat} {Q : State → Prop}
variable {g : xG} {A : Nat → Prop} {nL : Nat} {cc : ByteArray} {own : String} {wss wss' : List va_W} {lv lv' : List (Nat × Value)} {pc : Nat} {st : List Value}
def f_xpI (n : Nat) (k : SbT) (f : (Nat → Int32)) (x1 : Int32) : Option (Nat × SbT × (Nat → Int32)) := match f_J4_append_bf812 n k f x1 with | some u => some (n, u.1, u.2) | none => f_J4_append_bf812_G n k f x1
theorem x_xpI (C : CX g own cc nL A p s m9 args meth c) {y z n : Nat} {k : SbT} {f : (Nat → Int32)} {x1 : Int32} {u : Nat × SbT × (Nat → Int32)} (hf : f_xpI n k f x1 = some u) {index : Nat} (hcode : Cond.code yJ4_append_bf812 cJ4_append_bf812 2 (some (.object "java/lang/StringBuilder")) ∈ xTB) (hlink : Cond.methodLink own index yJ4_append_bf812 ∈ xTB) (hini : Cond.initialized RJ4 ∈ xTB) (hinst : Cond.instanceMethod yJ4_append_bf812 ∈ xTB) (hsel : Cond.selects RJ4 yJ4_append_bf812 yJ4_append_bf812 ∈ xTB)
    (hR : 12 ≤ R.frames ∧ 400 ≤ R.locals) (hc : cells + 1 ≤ R.cells) (hs : slots + 290 ≤ R.slots) {wr : List va_W} (hperm : wss.flatten.Perm (([sbO g y z k, baW g z n f] : List va_W).flatten ++ wr.flatten)) {rest : List Value} (hst : (rest.map fun v => v.category).sum ≤ 8) (hd : decode cc pc = .ok (.invokevirtual index, 3))
    (kk : ∀ z' : Nat, VW g A nL p l e R s m9 args below meth c (cells + 1) (slots + 290) Q (sbO g y z' u.2.1 :: baW g z' u.1 u.2.2 :: wr) lv (pc + 3) (.ref y :: rest)) : VW g A nL p l e R s m9 args below meth c cells slots Q wss lv pc (.int x1 :: .ref y :: rest) := by
  unfold f_xpI at hf
  obtain ⟨r1, r2⟩ := hR
  cases hN : f_J4_append_bf812 n k f x1 with
  | some v =>
    rw [hN] at hf
    obtain rfl := Option.some.inj hf
    refine x_callV (n := 1) (As := [.int x1]) (rest := rest) C (c_J4_append_bf812 g l y z n k f x1 hN) ⟨⟨hcode, hlink, hini⟩, ⟨by decide, by decide, by decide⟩, rfl, rfl, Nat.le_trans (Nat.le_of_ble_eq_true rfl) r1, Nat.le_trans (Nat.le_of_ble_eq_true rfl) r2⟩ hinst hsel ⟨0, 1, _, _, rfl, rfl, rfl⟩ wr hperm rfl rfl hst ⟨by omega, by omega⟩ hd (x_goD (wss2 := sbO g y z v.1 :: baW g z n v.2 :: wr) (stk2 := .ref y :: rest) rfl rfl (x_widen (k := cells + 1) (n := slots + 290) (by omega) (by omega) (kk z)))
  | none =>
    rw [hN] at hf
    refine x_callV (n := 1) (As := [.int x1]) (rest := rest) C (c_J4_append_bf812_G g l y z n k f x1 hf) ⟨⟨hcode, hlink, hini⟩, ⟨by decide, by decide, by decide⟩, rfl, rfl, Nat.le_trans (Nat.le_of_ble_eq_true rfl) r1, Nat.le_trans (Nat.le_of_ble_eq_true rfl) r2⟩ hinst hsel ⟨0, 1, _, _, rfl, rfl, rfl⟩ wr hperm rfl rfl hst ⟨by omega, by omega⟩ hd (fun v9 w9 hQ9 => ?_)
    obtain ⟨rfl, z1, rfl⟩ := hQ9
    exact x_goW (wss2 := sbO g y z1 u.2.1 :: baW g z1 u.1 u.2.2 :: wr) (stk2 := .ref y :: rest) rfl rfl rfl (kk z1)
def f_xpS (n : Nat) (k : SbT) (f : (Nat → Int32)) (x1 : Nat) : Option (Nat × SbT × (Nat → Int32)) := match f_J4_append_15ec4_S n k f x1 with | some u => some (n, u.1, u.2) | none => f_J4_append_15ec4_SG n k f x1
theorem x_xpS (C : CX g own cc nL A p s m9 args meth c) {y z n : Nat} {k : SbT} {f : (Nat → Int32)} {x1 : Nat} {u : Nat × SbT × (Nat → Int32)} (hf : f_xpS n k f x1 = some u) {index : Nat} (hcode : Cond.code yJ4_append_15ec4 cJ4_append_15ec4 2 (some (.object "java/lang/StringBuilder")) ∈ xTB) (hlink : Cond.methodLink own index yJ4_append_15ec4 ∈ xTB) (hini : Cond.initialized RJ4 ∈ xTB) (hinst : Cond.instanceMethod yJ4_append_15ec4 ∈ xTB) (hsel : Cond.selects RJ4 yJ4_append_15ec4 yJ4_append_15ec4 ∈ xTB)
    (hR : 12 ≤ R.frames ∧ 400 ≤ R.locals) (hc : cells + 1 ≤ R.cells) (hs : slots + 290 ≤ R.slots) {wr : List va_W} (hperm : wss.flatten.Perm (([sbO g y z k, baW g z n f] : List va_W).flatten ++ wr.flatten)) {rest : List Value} (hst : (rest.map fun v => v.category).sum ≤ 8) (hd : decode cc pc = .ok (.invokevirtual index, 3))
    (kk : ∀ z' : Nat, VW g A nL p l e R s m9 args below meth c (cells + 1) (slots + 290) Q (sbO g y z' u.2.1 :: baW g z' u.1 u.2.2 :: wr) lv (pc + 3) (.ref y :: rest)) : VW g A nL p l e R s m9 args below meth c cells slots Q wss lv pc (.ref (g.2.2 (300 + x1)) :: .ref y :: rest) := by
  unfold f_xpS at hf
  obtain ⟨r1, r2⟩ := hR
  cases hN : f_J4_append_15ec4_S n k f x1 with
  | some v =>
    rw [hN] at hf
    obtain rfl := Option.some.inj hf
    refine x_callV (n := 1) (As := [.ref (g.2.2 (300 + x1))]) (rest := rest) C (c_J4_append_15ec4_S g l y z n k f x1 hN) ⟨⟨hcode, hlink, hini⟩, ⟨by decide, by decide, by decide⟩, rfl, rfl, Nat.le_trans (Nat.le_of_ble_eq_true rfl) r1, Nat.le_trans (Nat.le_of_ble_eq_true rfl) r2⟩ hinst hsel ⟨0, 1, _, _, rfl, rfl, rfl⟩ wr hperm rfl rfl hst ⟨by omega, by omega⟩ hd (x_goD (wss2 := sbO g y z v.1 :: baW g z n v.2 :: wr) (stk2 := .ref y :: rest) rfl rfl (x_widen (k := cells + 1) (n := slots + 290) (by omega) (by omega) (kk z)))
  | none =>
    rw [hN] at hf
    refine x_callV (n := 1) (As := [.ref (g.2.2 (300 + x1))]) (rest := rest) C (c_J4_append_15ec4_SG g l y z n k f x1 hf) ⟨⟨hcode, hlink, hini⟩, ⟨by decide, by decide, by decide⟩, rfl, rfl, Nat.le_trans (Nat.le_of_ble_eq_true rfl) r1, Nat.le_trans (Nat.le_of_ble_eq_true rfl) r2⟩ hinst hsel ⟨0, 1, _, _, rfl, rfl, rfl⟩ wr hperm rfl rfl hst ⟨by omega, by omega⟩ hd (fun v9 w9 hQ9 => ?_)
    obtain ⟨rfl, z1, rfl⟩ := hQ9
    exact x_goW (wss2 := sbO g y z1 u.2.1 :: baW g z1 u.1 u.2.2 :: wr) (stk2 := .ref y :: rest) rfl rfl rfl (kk z1)
def f_xpT (n : Nat) (k : SbT) (f : (Nat → Int32)) (m : Nat) (h : (Nat → Int32)) : Option (Nat × SbT × (Nat → Int32)) := match f_J4_append_15ec4_T n m k f () h with | some u => some (n, u.1, u.2) | none => f_J4_append_15ec4_TG n m k f () h
theorem x_xpT (C : CX g own cc nL A p s m9 args meth c) {y z n : Nat} {k : SbT} {f : (Nat → Int32)} {x w m : Nat} {h : (Nat → Int32)} {u : Nat × SbT × (Nat → Int32)} (hf : f_xpT n k f m h = some u) {index : Nat} (hcode : Cond.code yJ4_append_15ec4 cJ4_append_15ec4 2 (some (.object "java/lang/StringBuilder")) ∈ xTB) (hlink : Cond.methodLink own index yJ4_append_15ec4 ∈ xTB) (hini : Cond.initialized RJ4 ∈ xTB) (hinst : Cond.instanceMethod yJ4_append_15ec4 ∈ xTB) (hsel : Cond.selects RJ4 yJ4_append_15ec4 yJ4_append_15ec4 ∈ xTB)
    (hR : 12 ≤ R.frames ∧ 400 ≤ R.locals) (hc : cells + 1 ≤ R.cells) (hs : slots + 290 ≤ R.slots) {wr : List va_W} (hperm : wss.flatten.Perm (([sbO g y z k, baW g z n f, stgO g x w (), baW g w m h] : List va_W).flatten ++ wr.flatten)) {rest : List Value} (hst : (rest.map fun v => v.category).sum ≤ 8) (hd : decode cc pc = .ok (.invokevirtual index, 3))
    (kk : ∀ z' : Nat, VW g A nL p l e R s m9 args below meth c (cells + 1) (slots + 290) Q (sbO g y z' u.2.1 :: baW g z' u.1 u.2.2 :: stgO g x w () :: baW g w m h :: wr) lv (pc + 3) (.ref y :: rest)) : VW g A nL p l e R s m9 args below meth c cells slots Q wss lv pc (.ref x :: .ref y :: rest) := by
  unfold f_xpT at hf
  obtain ⟨r1, r2⟩ := hR
  cases hN : f_J4_append_15ec4_T n m k f () h with
  | some v =>
    rw [hN] at hf
    obtain rfl := Option.some.inj hf
    refine x_callV (n := 1) (As := [.ref x]) (rest := rest) C (c_J4_append_15ec4_T g l y z n x w m k f () h hN) ⟨⟨hcode, hlink, hini⟩, ⟨by decide, by decide, by decide⟩, rfl, rfl, Nat.le_trans (Nat.le_of_ble_eq_true rfl) r1, Nat.le_trans (Nat.le_of_ble_eq_true rfl) r2⟩ hinst hsel ⟨0, 1, _, _, rfl, rfl, rfl⟩ wr hperm rfl rfl hst ⟨by omega, by omega⟩ hd (x_goD (wss2 := sbO g y z v.1 :: baW g z n v.2 :: stgO g x w () :: baW g w m h :: wr) (stk2 := .ref y :: rest) rfl rfl (x_widen (k := cells + 1) (n := slots + 290) (by omega) (by omega) (kk z)))
  | none =>
    rw [hN] at hf
    refine x_callV (n := 1) (As := [.ref x]) (rest := rest) C (c_J4_append_15ec4_TG g l y z n x w m k f () h hf) ⟨⟨hcode, hlink, hini⟩, ⟨by decide, by decide, by decide⟩, rfl, rfl, Nat.le_trans (Nat.le_of_ble_eq_true rfl) r1, Nat.le_trans (Nat.le_of_ble_eq_true rfl) r2⟩ hinst hsel ⟨0, 1, _, _, rfl, rfl, rfl⟩ wr hperm rfl rfl hst ⟨by omega, by omega⟩ hd (fun v9 w9 hQ9 => ?_)
    obtain ⟨rfl, z1, rfl⟩ := hQ9
    exact x_goW (wss2 := sbO g y z1 u.2.1 :: baW g z1 u.1 u.2.2 :: stgO g x w () :: baW g w m h :: wr) (stk2 := .ref y :: rest) rfl rfl rfl (kk z1)
end XB2
