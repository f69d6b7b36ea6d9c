def z_tm (i : Nat) : Term := match i with
  | 0 => .string "CommandBus$Reader" 24
  | 1 => .string "CommandBus$Reader" 57
  | 2 => .string "CommandBusModel" 218
  | 3 => .string "CommandBusModel" 224
  | 4 => .string "CommandBusModel" 226
  | 5 => .string "CommandBusModel" 228
  | 6 => .string "CommandBusModel" 230
  | 7 => .string "CommandBusModel" 232
  | 8 => .string "CommandBusModel" 234
  | 9 => .string "CommandBusModel" 236
  | 10 => .string "CommandBusModel" 237
  | 11 => .string "CommandBusModel" 239
  | 12 => .string "CommandBusModel" 244
  | 13 => .string "CommandBusModel" 246
  | 14 => .string "CommandBusModel" 248
  | 15 => .string "CommandBusModel" 250
  | 16 => .string "CommandBusModel" 252
  | 17 => .string "CommandBusModel" 254
  | 18 => .string "CommandBusModel" 256
  | 19 => .string "CommandBusModel" 258
  | 20 => .string "CommandBusModel" 260
  | _ => .string "" 0
def z_tl : List Nat := [44, 59, 4, 3, 4, 3, 4, 4, 5, 2, 3, 2, 5, 4, 7, 6, 4, 6, 4, 6, 5]
def z_tb2 : List (List Int32) := [[115, 101, 110, 100, 32, 103, 101, 116, 32, 112, 97, 115, 115, 32, 97, 108, 108, 32, 109, 111, 100, 101, 32, 104, 97, 110, 100, 32, 101, 118, 101, 114, 121, 32, 97, 116, 32, 97, 110, 121, 32, 111, 110, 32], [112, 111, 119, 101, 114, 32, 98, 117, 115, 121, 32, 115, 101, 114, 118, 105, 99, 101, 32, 115, 121, 115, 116, 101, 109, 32, 102, 108, 97, 103, 32, 97, 99, 99, 101, 112, 116, 32, 100, 101, 97, 102, 32, 98, 97, 98, 98, 108, 101, 32, 110, 111, 105, 115, 101, 32, 97, 116, 32], [115, 101, 110, 100], [103, 101, 116], [112, 97, 115, 115], [97, 108, 108], [109, 111, 100, 101], [104, 97, 110, 100], [101, 118, 101, 114, 121], [97, 116], [97, 110, 121], [111, 110], [112, 111, 119, 101, 114], [98, 117, 115, 121], [115, 101, 114, 118, 105, 99, 101], [115, 121, 115, 116, 101, 109], [102, 108, 97, 103], [97, 99, 99, 101, 112, 116], [100, 101, 97, 102], [98, 97, 98, 98, 108, 101], [110, 111, 105, 115, 101]]
def z_tx : List (String × Nat × String) := [("CommandBus$Reader", 24, "send get pass all mode hand every at any on "), ("CommandBus$Reader", 57, "power busy service system flag accept deaf babble noise at "), ("CommandBusModel", 218, "send"), ("CommandBusModel", 224, "get"), ("CommandBusModel", 226, "pass"), ("CommandBusModel", 228, "all"), ("CommandBusModel", 230, "mode"), ("CommandBusModel", 232, "hand"), ("CommandBusModel", 234, "every"), ("CommandBusModel", 236, "at"), ("CommandBusModel", 237, "any"), ("CommandBusModel", 239, "on"), ("CommandBusModel", 244, "power"), ("CommandBusModel", 246, "busy"), ("CommandBusModel", 248, "service"), ("CommandBusModel", 250, "system"), ("CommandBusModel", 252, "flag"), ("CommandBusModel", 254, "accept"), ("CommandBusModel", 256, "deaf"), ("CommandBusModel", 258, "babble"), ("CommandBusModel", 260, "noise")]
def z_fl : List Cond := flatC (Jvm.Cond.and given_1 narrow_1)
theorem z_f1 : ∀ i, i < 21 → Cond.exactly (z_tm i) "java/lang/String" ∈ z_fl := by decide +kernel
theorem z_f2 : ∀ i, i < 21 → Cond.eq (.field (z_tm i) "java/lang/String" "coder" "B") (.int 0) ∈ z_fl := by decide +kernel
theorem z_f3 : ∀ i, i < 21 → Cond.arrayOf (.field (z_tm i) "java/lang/String" "value" "[B") .byte ∈ z_fl := by decide +kernel
theorem z_f4 : ∀ i, i < 21 → Cond.eq (.length (.field (z_tm i) "java/lang/String" "value" "[B")) (.int (Int32.ofNat (z_tl.getD i 0))) ∈ z_fl := by decide +kernel
theorem z_f7 : Cond.arrayOf (.static "CommandBus$Units" "MOST" "[I") .int ∈ z_fl ∧ Cond.eq (.length (.static "CommandBus$Units" "MOST" "[I")) (.int 10) ∈ z_fl ∧ Cond.eq (.static "java/lang/String" "COMPACT_STRINGS" "Z") (.int 1) ∈ z_fl ∧ Cond.isRef (.static "jdk/internal/util/Preconditions" "SIOOBE_FORMATTER" "Ljava/util/function/BiFunction;") ∈ z_fl := by decide +kernel
theorem z_f8 : ∀ j, j < 10 → Cond.eq (.elem (.static "CommandBus$Units" "MOST" "[I") (.int (Int32.ofNat j))) (.int (([1, 1, 1, 1, 1, 1, 3, 3, 126, 65535] : List Int32).getD j 0)) ∈ z_fl := by decide +kernel
def z_p5_0 : List Nat := [26, 27, 28, 29, 30, 31, 32, 33, 34, 35, 36, 37, 38, 39, 40, 41, 42, 43, 44, 45, 46, 47, 48, 49, 50, 51, 52, 53, 54, 55, 56, 57, 58, 59, 60, 61, 62, 63, 64, 65, 66, 67, 68, 69]
theorem z_f5_0 : ∀ j, j < 44 → z_fl[z_p5_0.getD j 0]? = some (Cond.eq (.elem (.field (z_tm 0) "java/lang/String" "value" "[B") (.int (Int32.ofNat j))) (.int ((z_tb2.getD 0 []).getD j 0))) := by decide +kernel
def z_p5_1 : List Nat := [74, 75, 76, 77, 78, 79, 80, 81, 82, 83, 84, 85, 86, 87, 88, 89, 90, 91, 92, 93, 94, 95, 96, 97, 98, 99, 100, 101, 102, 103, 104, 105, 106, 107, 108, 109, 110, 111, 112, 113, 114, 115, 116, 117, 118, 119, 120, 121, 122, 123, 124, 125, 126, 127, 128, 129, 130, 131, 132]
theorem z_f5_1 : ∀ j, j < 59 → z_fl[z_p5_1.getD j 0]? = some (Cond.eq (.elem (.field (z_tm 1) "java/lang/String" "value" "[B") (.int (Int32.ofNat j))) (.int ((z_tb2.getD 1 []).getD j 0))) := by decide +kernel
def z_p5_2 : List Nat := [138, 139, 140, 141]
theorem z_f5_2 : ∀ j, j < 4 → z_fl[z_p5_2.getD j 0]? = some (Cond.eq (.elem (.field (z_tm 2) "java/lang/String" "value" "[B") (.int (Int32.ofNat j))) (.int ((z_tb2.getD 2 []).getD j 0))) := by decide +kernel
def z_p5_3 : List Nat := [148, 149, 150]
theorem z_f5_3 : ∀ j, j < 3 → z_fl[z_p5_3.getD j 0]? = some (Cond.eq (.elem (.field (z_tm 3) "java/lang/String" "value" "[B") (.int (Int32.ofNat j))) (.int ((z_tb2.getD 3 []).getD j 0))) := by decide +kernel
def z_p5_4 : List Nat := [158, 159, 160, 161]
theorem z_f5_4 : ∀ j, j < 4 → z_fl[z_p5_4.getD j 0]? = some (Cond.eq (.elem (.field (z_tm 4) "java/lang/String" "value" "[B") (.int (Int32.ofNat j))) (.int ((z_tb2.getD 4 []).getD j 0))) := by decide +kernel
def z_p5_5 : List Nat := [170, 171, 172]
theorem z_f5_5 : ∀ j, j < 3 → z_fl[z_p5_5.getD j 0]? = some (Cond.eq (.elem (.field (z_tm 5) "java/lang/String" "value" "[B") (.int (Int32.ofNat j))) (.int ((z_tb2.getD 5 []).getD j 0))) := by decide +kernel
def z_p5_6 : List Nat := [182, 183, 184, 185]
theorem z_f5_6 : ∀ j, j < 4 → z_fl[z_p5_6.getD j 0]? = some (Cond.eq (.elem (.field (z_tm 6) "java/lang/String" "value" "[B") (.int (Int32.ofNat j))) (.int ((z_tb2.getD 6 []).getD j 0))) := by decide +kernel
def z_p5_7 : List Nat := [196, 197, 198, 199]
theorem z_f5_7 : ∀ j, j < 4 → z_fl[z_p5_7.getD j 0]? = some (Cond.eq (.elem (.field (z_tm 7) "java/lang/String" "value" "[B") (.int (Int32.ofNat j))) (.int ((z_tb2.getD 7 []).getD j 0))) := by decide +kernel
def z_p5_8 : List Nat := [211, 212, 213, 214, 215]
theorem z_f5_8 : ∀ j, j < 5 → z_fl[z_p5_8.getD j 0]? = some (Cond.eq (.elem (.field (z_tm 8) "java/lang/String" "value" "[B") (.int (Int32.ofNat j))) (.int ((z_tb2.getD 8 []).getD j 0))) := by decide +kernel
def z_p5_9 : List Nat := [228, 229]
theorem z_f5_9 : ∀ j, j < 2 → z_fl[z_p5_9.getD j 0]? = some (Cond.eq (.elem (.field (z_tm 9) "java/lang/String" "value" "[B") (.int (Int32.ofNat j))) (.int ((z_tb2.getD 9 []).getD j 0))) := by decide +kernel
def z_p5_10 : List Nat := [243, 244, 245]
theorem z_f5_10 : ∀ j, j < 3 → z_fl[z_p5_10.getD j 0]? = some (Cond.eq (.elem (.field (z_tm 10) "java/lang/String" "value" "[B") (.int (Int32.ofNat j))) (.int ((z_tb2.getD 10 []).getD j 0))) := by decide +kernel
def z_p5_11 : List Nat := [260, 261]
theorem z_f5_11 : ∀ j, j < 2 → z_fl[z_p5_11.getD j 0]? = some (Cond.eq (.elem (.field (z_tm 11) "java/lang/String" "value" "[B") (.int (Int32.ofNat j))) (.int ((z_tb2.getD 11 []).getD j 0))) := by decide +kernel
def z_p5_12 : List Nat := [277, 278, 279, 280, 281]
theorem z_f5_12 : ∀ j, j < 5 → z_fl[z_p5_12.getD j 0]? = some (Cond.eq (.elem (.field (z_tm 12) "java/lang/String" "value" "[B") (.int (Int32.ofNat j))) (.int ((z_tb2.getD 12 []).getD j 0))) := by decide +kernel
def z_p5_13 : List Nat := [298, 299, 300, 301]
theorem z_f5_13 : ∀ j, j < 4 → z_fl[z_p5_13.getD j 0]? = some (Cond.eq (.elem (.field (z_tm 13) "java/lang/String" "value" "[B") (.int (Int32.ofNat j))) (.int ((z_tb2.getD 13 []).getD j 0))) := by decide +kernel
def z_p5_14 : List Nat := [319, 320, 321, 322, 323, 324, 325]
theorem z_f5_14 : ∀ j, j < 7 → z_fl[z_p5_14.getD j 0]? = some (Cond.eq (.elem (.field (z_tm 14) "java/lang/String" "value" "[B") (.int (Int32.ofNat j))) (.int ((z_tb2.getD 14 []).getD j 0))) := by decide +kernel
def z_p5_15 : List Nat := [344, 345, 346, 347, 348, 349]
theorem z_f5_15 : ∀ j, j < 6 → z_fl[z_p5_15.getD j 0]? = some (Cond.eq (.elem (.field (z_tm 15) "java/lang/String" "value" "[B") (.int (Int32.ofNat j))) (.int ((z_tb2.getD 15 []).getD j 0))) := by decide +kernel
def z_p5_16 : List Nat := [369, 370, 371, 372]
theorem z_f5_16 : ∀ j, j < 4 → z_fl[z_p5_16.getD j 0]? = some (Cond.eq (.elem (.field (z_tm 16) "java/lang/String" "value" "[B") (.int (Int32.ofNat j))) (.int ((z_tb2.getD 16 []).getD j 0))) := by decide +kernel
def z_p5_17 : List Nat := [393, 394, 395, 396, 397, 398]
theorem z_f5_17 : ∀ j, j < 6 → z_fl[z_p5_17.getD j 0]? = some (Cond.eq (.elem (.field (z_tm 17) "java/lang/String" "value" "[B") (.int (Int32.ofNat j))) (.int ((z_tb2.getD 17 []).getD j 0))) := by decide +kernel
def z_p5_18 : List Nat := [420, 421, 422, 423]
theorem z_f5_18 : ∀ j, j < 4 → z_fl[z_p5_18.getD j 0]? = some (Cond.eq (.elem (.field (z_tm 18) "java/lang/String" "value" "[B") (.int (Int32.ofNat j))) (.int ((z_tb2.getD 18 []).getD j 0))) := by decide +kernel
def z_p5_19 : List Nat := [446, 447, 448, 449, 450, 451]
theorem z_f5_19 : ∀ j, j < 6 → z_fl[z_p5_19.getD j 0]? = some (Cond.eq (.elem (.field (z_tm 19) "java/lang/String" "value" "[B") (.int (Int32.ofNat j))) (.int ((z_tb2.getD 19 []).getD j 0))) := by decide +kernel
def z_p5_20 : List Nat := [475, 476, 477, 478, 479]
theorem z_f5_20 : ∀ j, j < 5 → z_fl[z_p5_20.getD j 0]? = some (Cond.eq (.elem (.field (z_tm 20) "java/lang/String" "value" "[B") (.int (Int32.ofNat j))) (.int ((z_tb2.getD 20 []).getD j 0))) := by decide +kernel
theorem z_f5 : ∀ i, i < 21 → ∀ j, j < z_tl.getD i 0 → Cond.eq (.elem (.field (z_tm i) "java/lang/String" "value" "[B") (.int (Int32.ofNat j))) (.int ((z_tb2.getD i []).getD j 0)) ∈ z_fl := by
  intro i hi
  match i, hi with
  | 0, _ => exact fun j hj => List.mem_of_getElem? (z_f5_0 j hj)
  | 1, _ => exact fun j hj => List.mem_of_getElem? (z_f5_1 j hj)
  | 2, _ => exact fun j hj => List.mem_of_getElem? (z_f5_2 j hj)
  | 3, _ => exact fun j hj => List.mem_of_getElem? (z_f5_3 j hj)
  | 4, _ => exact fun j hj => List.mem_of_getElem? (z_f5_4 j hj)
  | 5, _ => exact fun j hj => List.mem_of_getElem? (z_f5_5 j hj)
  | 6, _ => exact fun j hj => List.mem_of_getElem? (z_f5_6 j hj)
  | 7, _ => exact fun j hj => List.mem_of_getElem? (z_f5_7 j hj)
  | 8, _ => exact fun j hj => List.mem_of_getElem? (z_f5_8 j hj)
  | 9, _ => exact fun j hj => List.mem_of_getElem? (z_f5_9 j hj)
  | 10, _ => exact fun j hj => List.mem_of_getElem? (z_f5_10 j hj)
  | 11, _ => exact fun j hj => List.mem_of_getElem? (z_f5_11 j hj)
  | 12, _ => exact fun j hj => List.mem_of_getElem? (z_f5_12 j hj)
  | 13, _ => exact fun j hj => List.mem_of_getElem? (z_f5_13 j hj)
  | 14, _ => exact fun j hj => List.mem_of_getElem? (z_f5_14 j hj)
  | 15, _ => exact fun j hj => List.mem_of_getElem? (z_f5_15 j hj)
  | 16, _ => exact fun j hj => List.mem_of_getElem? (z_f5_16 j hj)
  | 17, _ => exact fun j hj => List.mem_of_getElem? (z_f5_17 j hj)
  | 18, _ => exact fun j hj => List.mem_of_getElem? (z_f5_18 j hj)
  | 19, _ => exact fun j hj => List.mem_of_getElem? (z_f5_19 j hj)
  | 20, _ => exact fun j hj => List.mem_of_getElem? (z_f5_20 j hj)
  | _ + 21, h => exact absurd h (by omega)
def z_p6_0 : List (Nat × Nat) := [(0, 0), (0, 133), (0, 142), (0, 151), (0, 162), (0, 173), (0, 186), (0, 200), (0, 216), (0, 230), (0, 246), (0, 262), (0, 282), (0, 302), (0, 326), (0, 350), (0, 373), (0, 399), (0, 424), (0, 452), (0, 480)]
theorem z_f6_0 : ∀ j, j < 21 → 0 ≠ j → z_fl[(z_p6_0.getD j (0, 0)).2]? = some (bif Nat.beq (z_p6_0.getD j (0, 0)).1 0 then Cond.not (Cond.eq (z_tm 0) (z_tm j)) else Cond.not (Cond.eq (z_tm j) (z_tm 0))) := by decide +kernel
def z_p6_1 : List (Nat × Nat) := [(1, 133), (0, 0), (0, 143), (0, 152), (0, 163), (0, 174), (0, 187), (0, 201), (0, 217), (0, 231), (0, 247), (0, 263), (0, 283), (0, 303), (0, 327), (0, 351), (0, 374), (0, 400), (0, 425), (0, 453), (0, 481)]
theorem z_f6_1 : ∀ j, j < 21 → 1 ≠ j → z_fl[(z_p6_1.getD j (0, 0)).2]? = some (bif Nat.beq (z_p6_1.getD j (0, 0)).1 0 then Cond.not (Cond.eq (z_tm 1) (z_tm j)) else Cond.not (Cond.eq (z_tm j) (z_tm 1))) := by decide +kernel
def z_p6_2 : List (Nat × Nat) := [(1, 142), (1, 143), (0, 0), (0, 153), (0, 164), (0, 175), (0, 188), (0, 202), (0, 218), (0, 232), (0, 248), (0, 264), (0, 284), (0, 304), (0, 328), (0, 352), (0, 375), (0, 401), (0, 426), (0, 454), (0, 482)]
theorem z_f6_2 : ∀ j, j < 21 → 2 ≠ j → z_fl[(z_p6_2.getD j (0, 0)).2]? = some (bif Nat.beq (z_p6_2.getD j (0, 0)).1 0 then Cond.not (Cond.eq (z_tm 2) (z_tm j)) else Cond.not (Cond.eq (z_tm j) (z_tm 2))) := by decide +kernel
def z_p6_3 : List (Nat × Nat) := [(1, 151), (1, 152), (1, 153), (0, 0), (0, 165), (0, 176), (0, 189), (0, 203), (0, 219), (0, 233), (0, 249), (0, 265), (0, 285), (0, 305), (0, 329), (0, 353), (0, 376), (0, 402), (0, 427), (0, 455), (0, 483)]
theorem z_f6_3 : ∀ j, j < 21 → 3 ≠ j → z_fl[(z_p6_3.getD j (0, 0)).2]? = some (bif Nat.beq (z_p6_3.getD j (0, 0)).1 0 then Cond.not (Cond.eq (z_tm 3) (z_tm j)) else Cond.not (Cond.eq (z_tm j) (z_tm 3))) := by decide +kernel
def z_p6_4 : List (Nat × Nat) := [(1, 162), (1, 163), (1, 164), (1, 165), (0, 0), (0, 177), (0, 190), (0, 204), (0, 220), (0, 234), (0, 250), (0, 266), (0, 286), (0, 306), (0, 330), (0, 354), (0, 377), (0, 403), (0, 428), (0, 456), (0, 484)]
theorem z_f6_4 : ∀ j, j < 21 → 4 ≠ j → z_fl[(z_p6_4.getD j (0, 0)).2]? = some (bif Nat.beq (z_p6_4.getD j (0, 0)).1 0 then Cond.not (Cond.eq (z_tm 4) (z_tm j)) else Cond.not (Cond.eq (z_tm j) (z_tm 4))) := by decide +kernel
def z_p6_5 : List (Nat × Nat) := [(1, 173), (1, 174), (1, 175), (1, 176), (1, 177), (0, 0), (0, 191), (0, 205), (0, 221), (0, 235), (0, 251), (0, 267), (0, 287), (0, 307), (0, 331), (0, 355), (0, 378), (0, 404), (0, 429), (0, 457), (0, 485)]
theorem z_f6_5 : ∀ j, j < 21 → 5 ≠ j → z_fl[(z_p6_5.getD j (0, 0)).2]? = some (bif Nat.beq (z_p6_5.getD j (0, 0)).1 0 then Cond.not (Cond.eq (z_tm 5) (z_tm j)) else Cond.not (Cond.eq (z_tm j) (z_tm 5))) := by decide +kernel
def z_p6_6 : List (Nat × Nat) := [(1, 186), (1, 187), (1, 188), (1, 189), (1, 190), (1, 191), (0, 0), (0, 206), (0, 222), (0, 236), (0, 252), (0, 268), (0, 288), (0, 308), (0, 332), (0, 356), (0, 379), (0, 405), (0, 430), (0, 458), (0, 486)]
theorem z_f6_6 : ∀ j, j < 21 → 6 ≠ j → z_fl[(z_p6_6.getD j (0, 0)).2]? = some (bif Nat.beq (z_p6_6.getD j (0, 0)).1 0 then Cond.not (Cond.eq (z_tm 6) (z_tm j)) else Cond.not (Cond.eq (z_tm j) (z_tm 6))) := by decide +kernel
def z_p6_7 : List (Nat × Nat) := [(1, 200), (1, 201), (1, 202), (1, 203), (1, 204), (1, 205), (1, 206), (0, 0), (0, 223), (0, 237), (0, 253), (0, 269), (0, 289), (0, 309), (0, 333), (0, 357), (0, 380), (0, 406), (0, 431), (0, 459), (0, 487)]
theorem z_f6_7 : ∀ j, j < 21 → 7 ≠ j → z_fl[(z_p6_7.getD j (0, 0)).2]? = some (bif Nat.beq (z_p6_7.getD j (0, 0)).1 0 then Cond.not (Cond.eq (z_tm 7) (z_tm j)) else Cond.not (Cond.eq (z_tm j) (z_tm 7))) := by decide +kernel
def z_p6_8 : List (Nat × Nat) := [(1, 216), (1, 217), (1, 218), (1, 219), (1, 220), (1, 221), (1, 222), (1, 223), (0, 0), (0, 238), (0, 254), (0, 270), (0, 290), (0, 310), (0, 334), (0, 358), (0, 381), (0, 407), (0, 432), (0, 460), (0, 488)]
theorem z_f6_8 : ∀ j, j < 21 → 8 ≠ j → z_fl[(z_p6_8.getD j (0, 0)).2]? = some (bif Nat.beq (z_p6_8.getD j (0, 0)).1 0 then Cond.not (Cond.eq (z_tm 8) (z_tm j)) else Cond.not (Cond.eq (z_tm j) (z_tm 8))) := by decide +kernel
def z_p6_9 : List (Nat × Nat) := [(1, 230), (1, 231), (1, 232), (1, 233), (1, 234), (1, 235), (1, 236), (1, 237), (1, 238), (0, 0), (0, 255), (0, 271), (0, 291), (0, 311), (0, 335), (0, 359), (0, 382), (0, 408), (0, 433), (0, 461), (0, 489)]
theorem z_f6_9 : ∀ j, j < 21 → 9 ≠ j → z_fl[(z_p6_9.getD j (0, 0)).2]? = some (bif Nat.beq (z_p6_9.getD j (0, 0)).1 0 then Cond.not (Cond.eq (z_tm 9) (z_tm j)) else Cond.not (Cond.eq (z_tm j) (z_tm 9))) := by decide +kernel
def z_p6_10 : List (Nat × Nat) := [(1, 246), (1, 247), (1, 248), (1, 249), (1, 250), (1, 251), (1, 252), (1, 253), (1, 254), (1, 255), (0, 0), (0, 272), (0, 292), (0, 312), (0, 336), (0, 360), (0, 383), (0, 409), (0, 434), (0, 462), (0, 490)]
theorem z_f6_10 : ∀ j, j < 21 → 10 ≠ j → z_fl[(z_p6_10.getD j (0, 0)).2]? = some (bif Nat.beq (z_p6_10.getD j (0, 0)).1 0 then Cond.not (Cond.eq (z_tm 10) (z_tm j)) else Cond.not (Cond.eq (z_tm j) (z_tm 10))) := by decide +kernel
def z_p6_11 : List (Nat × Nat) := [(1, 262), (1, 263), (1, 264), (1, 265), (1, 266), (1, 267), (1, 268), (1, 269), (1, 270), (1, 271), (1, 272), (0, 0), (0, 293), (0, 313), (0, 337), (0, 361), (0, 384), (0, 410), (0, 435), (0, 463), (0, 491)]
theorem z_f6_11 : ∀ j, j < 21 → 11 ≠ j → z_fl[(z_p6_11.getD j (0, 0)).2]? = some (bif Nat.beq (z_p6_11.getD j (0, 0)).1 0 then Cond.not (Cond.eq (z_tm 11) (z_tm j)) else Cond.not (Cond.eq (z_tm j) (z_tm 11))) := by decide +kernel
def z_p6_12 : List (Nat × Nat) := [(1, 282), (1, 283), (1, 284), (1, 285), (1, 286), (1, 287), (1, 288), (1, 289), (1, 290), (1, 291), (1, 292), (1, 293), (0, 0), (0, 314), (0, 338), (0, 362), (0, 385), (0, 411), (0, 436), (0, 464), (0, 492)]
theorem z_f6_12 : ∀ j, j < 21 → 12 ≠ j → z_fl[(z_p6_12.getD j (0, 0)).2]? = some (bif Nat.beq (z_p6_12.getD j (0, 0)).1 0 then Cond.not (Cond.eq (z_tm 12) (z_tm j)) else Cond.not (Cond.eq (z_tm j) (z_tm 12))) := by decide +kernel
def z_p6_13 : List (Nat × Nat) := [(1, 302), (1, 303), (1, 304), (1, 305), (1, 306), (1, 307), (1, 308), (1, 309), (1, 310), (1, 311), (1, 312), (1, 313), (1, 314), (0, 0), (0, 339), (0, 363), (0, 386), (0, 412), (0, 437), (0, 465), (0, 493)]
theorem z_f6_13 : ∀ j, j < 21 → 13 ≠ j → z_fl[(z_p6_13.getD j (0, 0)).2]? = some (bif Nat.beq (z_p6_13.getD j (0, 0)).1 0 then Cond.not (Cond.eq (z_tm 13) (z_tm j)) else Cond.not (Cond.eq (z_tm j) (z_tm 13))) := by decide +kernel
def z_p6_14 : List (Nat × Nat) := [(1, 326), (1, 327), (1, 328), (1, 329), (1, 330), (1, 331), (1, 332), (1, 333), (1, 334), (1, 335), (1, 336), (1, 337), (1, 338), (1, 339), (0, 0), (0, 364), (0, 387), (0, 413), (0, 438), (0, 466), (0, 494)]
theorem z_f6_14 : ∀ j, j < 21 → 14 ≠ j → z_fl[(z_p6_14.getD j (0, 0)).2]? = some (bif Nat.beq (z_p6_14.getD j (0, 0)).1 0 then Cond.not (Cond.eq (z_tm 14) (z_tm j)) else Cond.not (Cond.eq (z_tm j) (z_tm 14))) := by decide +kernel
def z_p6_15 : List (Nat × Nat) := [(1, 350), (1, 351), (1, 352), (1, 353), (1, 354), (1, 355), (1, 356), (1, 357), (1, 358), (1, 359), (1, 360), (1, 361), (1, 362), (1, 363), (1, 364), (0, 0), (0, 388), (0, 414), (0, 439), (0, 467), (0, 495)]
theorem z_f6_15 : ∀ j, j < 21 → 15 ≠ j → z_fl[(z_p6_15.getD j (0, 0)).2]? = some (bif Nat.beq (z_p6_15.getD j (0, 0)).1 0 then Cond.not (Cond.eq (z_tm 15) (z_tm j)) else Cond.not (Cond.eq (z_tm j) (z_tm 15))) := by decide +kernel
def z_p6_16 : List (Nat × Nat) := [(1, 373), (1, 374), (1, 375), (1, 376), (1, 377), (1, 378), (1, 379), (1, 380), (1, 381), (1, 382), (1, 383), (1, 384), (1, 385), (1, 386), (1, 387), (1, 388), (0, 0), (0, 415), (0, 440), (0, 468), (0, 496)]
theorem z_f6_16 : ∀ j, j < 21 → 16 ≠ j → z_fl[(z_p6_16.getD j (0, 0)).2]? = some (bif Nat.beq (z_p6_16.getD j (0, 0)).1 0 then Cond.not (Cond.eq (z_tm 16) (z_tm j)) else Cond.not (Cond.eq (z_tm j) (z_tm 16))) := by decide +kernel
def z_p6_17 : List (Nat × Nat) := [(1, 399), (1, 400), (1, 401), (1, 402), (1, 403), (1, 404), (1, 405), (1, 406), (1, 407), (1, 408), (1, 409), (1, 410), (1, 411), (1, 412), (1, 413), (1, 414), (1, 415), (0, 0), (0, 441), (0, 469), (0, 497)]
theorem z_f6_17 : ∀ j, j < 21 → 17 ≠ j → z_fl[(z_p6_17.getD j (0, 0)).2]? = some (bif Nat.beq (z_p6_17.getD j (0, 0)).1 0 then Cond.not (Cond.eq (z_tm 17) (z_tm j)) else Cond.not (Cond.eq (z_tm j) (z_tm 17))) := by decide +kernel
def z_p6_18 : List (Nat × Nat) := [(1, 424), (1, 425), (1, 426), (1, 427), (1, 428), (1, 429), (1, 430), (1, 431), (1, 432), (1, 433), (1, 434), (1, 435), (1, 436), (1, 437), (1, 438), (1, 439), (1, 440), (1, 441), (0, 0), (0, 470), (0, 498)]
theorem z_f6_18 : ∀ j, j < 21 → 18 ≠ j → z_fl[(z_p6_18.getD j (0, 0)).2]? = some (bif Nat.beq (z_p6_18.getD j (0, 0)).1 0 then Cond.not (Cond.eq (z_tm 18) (z_tm j)) else Cond.not (Cond.eq (z_tm j) (z_tm 18))) := by decide +kernel
def z_p6_19 : List (Nat × Nat) := [(1, 452), (1, 453), (1, 454), (1, 455), (1, 456), (1, 457), (1, 458), (1, 459), (1, 460), (1, 461), (1, 462), (1, 463), (1, 464), (1, 465), (1, 466), (1, 467), (1, 468), (1, 469), (1, 470), (0, 0), (0, 499)]
theorem z_f6_19 : ∀ j, j < 21 → 19 ≠ j → z_fl[(z_p6_19.getD j (0, 0)).2]? = some (bif Nat.beq (z_p6_19.getD j (0, 0)).1 0 then Cond.not (Cond.eq (z_tm 19) (z_tm j)) else Cond.not (Cond.eq (z_tm j) (z_tm 19))) := by decide +kernel
def z_p6_20 : List (Nat × Nat) := [(1, 480), (1, 481), (1, 482), (1, 483), (1, 484), (1, 485), (1, 486), (1, 487), (1, 488), (1, 489), (1, 490), (1, 491), (1, 492), (1, 493), (1, 494), (1, 495), (1, 496), (1, 497), (1, 498), (1, 499), (0, 0)]
theorem z_f6_20 : ∀ j, j < 21 → 20 ≠ j → z_fl[(z_p6_20.getD j (0, 0)).2]? = some (bif Nat.beq (z_p6_20.getD j (0, 0)).1 0 then Cond.not (Cond.eq (z_tm 20) (z_tm j)) else Cond.not (Cond.eq (z_tm j) (z_tm 20))) := by decide +kernel
theorem z_f6_of {i j n : Nat} {b : Bool} (h : z_fl[n]? = some (bif b then Cond.not (Cond.eq (z_tm i) (z_tm j)) else Cond.not (Cond.eq (z_tm j) (z_tm i)))) : (Cond.not (Cond.eq (z_tm i) (z_tm j)) ∈ z_fl ∨ Cond.not (Cond.eq (z_tm j) (z_tm i)) ∈ z_fl) := by
  cases b
  · exact Or.inr (List.mem_of_getElem? h)
  · exact Or.inl (List.mem_of_getElem? h)
theorem z_f6 : ∀ i, i < 21 → ∀ j, j < 21 → i ≠ j → (Cond.not (Cond.eq (z_tm i) (z_tm j)) ∈ z_fl ∨ Cond.not (Cond.eq (z_tm j) (z_tm i)) ∈ z_fl) := by
  intro i hi
  match i, hi with
  | 0, _ => exact fun j hj hn => z_f6_of (z_f6_0 j hj hn)
  | 1, _ => exact fun j hj hn => z_f6_of (z_f6_1 j hj hn)
  | 2, _ => exact fun j hj hn => z_f6_of (z_f6_2 j hj hn)
  | 3, _ => exact fun j hj hn => z_f6_of (z_f6_3 j hj hn)
  | 4, _ => exact fun j hj hn => z_f6_of (z_f6_4 j hj hn)
  | 5, _ => exact fun j hj hn => z_f6_of (z_f6_5 j hj hn)
  | 6, _ => exact fun j hj hn => z_f6_of (z_f6_6 j hj hn)
  | 7, _ => exact fun j hj hn => z_f6_of (z_f6_7 j hj hn)
  | 8, _ => exact fun j hj hn => z_f6_of (z_f6_8 j hj hn)
  | 9, _ => exact fun j hj hn => z_f6_of (z_f6_9 j hj hn)
  | 10, _ => exact fun j hj hn => z_f6_of (z_f6_10 j hj hn)
  | 11, _ => exact fun j hj hn => z_f6_of (z_f6_11 j hj hn)
  | 12, _ => exact fun j hj hn => z_f6_of (z_f6_12 j hj hn)
  | 13, _ => exact fun j hj hn => z_f6_of (z_f6_13 j hj hn)
  | 14, _ => exact fun j hj hn => z_f6_of (z_f6_14 j hj hn)
  | 15, _ => exact fun j hj hn => z_f6_of (z_f6_15 j hj hn)
  | 16, _ => exact fun j hj hn => z_f6_of (z_f6_16 j hj hn)
  | 17, _ => exact fun j hj hn => z_f6_of (z_f6_17 j hj hn)
  | 18, _ => exact fun j hj hn => z_f6_of (z_f6_18 j hj hn)
  | 19, _ => exact fun j hj hn => z_f6_of (z_f6_19 j hj hn)
  | 20, _ => exact fun j hj hn => z_f6_of (z_f6_20 j hj hn)
  | _ + 21, h => exact absurd h (by omega)
def z_sp : List Nat := [444, 998, 1537, 1544, 1545, 1546, 1547, 1548, 1549, 1550, 1551, 1552, 1557, 1558, 1559, 1560, 1561, 1562, 1563, 1564, 1565]
theorem z_f9 : ∀ i, i < 21 → lw_tbl[z_sp.getD i 0]? = some (Cond.stringRef (z_tx.getD i ("", 0, "")).1 (z_tx.getD i ("", 0, "")).2.1 (z_tx.getD i ("", 0, "")).2.2) ∧ z_tm i = .string (z_tx.getD i ("", 0, "")).1 (z_tx.getD i ("", 0, "")).2.1 := by decide +kernel
theorem z_f10 : (z_SL.all fun t => (List.range 21).any fun i => Nat.beq t.2.2 (2 + 2 * i) && decide ((z_tx.getD i ("", 0, "")).1 = z_cn t.1) && Nat.beq (z_tx.getD i ("", 0, "")).2.1 t.2.1) = true := by decide +kernel
theorem z_f11 : lw_tbl[547]? = some (Cond.laysStatic "CommandBus$Units" "MOST" "[I") ∧ lw_tbl[881]? = some (Cond.laysStatic "java/lang/String" "COMPACT_STRINGS" "Z") ∧ lw_tbl[897]? = some (Cond.laysStatic "jdk/internal/util/Preconditions" "SIOOBE_FORMATTER" "Ljava/util/function/BiFunction;") := by decide +kernel
theorem z_f12 : lw_tbl[124]? = some (Cond.initialized "CommandBus$Units") ∧ lw_tbl[139]? = some (Cond.initialized "java/lang/String") ∧ lw_tbl[141]? = some (Cond.initialized "jdk/internal/util/Preconditions") := by decide +kernel
def z_mp : List (Nat × Nat × Nat × Nat) := [(0, 11, 1, 156), (0, 36, 9, 440), (0, 43, 10, 483), (1, 20, 3, 199), (1, 27, 5, 254), (1, 34, 6, 292)]
theorem z_f13 : (z_MN.all fun t => z_mp.any fun u => decide (t = (u.1, u.2.1, u.2.2.1))) = true ∧ (z_mp.all fun u => decide (lw_tbl[u.2.2.2]? = some (Cond.methodLinkNest (z_cn u.1) u.2.1 (z_MT u.2.2.1).1 "CommandBus"))) = true := by decide +kernel
theorem z_cond_fst {b : Bool} {x y x' y' : Nat × Nat × (Nat → Int32)} (hx : x.1 = x'.1) (hy : y.1 = y'.1) : (bif b then x else y).1 = (bif b then x' else y').1 := by cases b <;> assumption
theorem z_xa_hi (L : Nat) (xs : Nat → Int32) (j : Nat) (h : 44 ≤ j) : z_xa0 L xs j = (0, 0, fun _ => 0) := by
  have hb : ∀ c, c < 44 → Nat.ble j c = false := fun c hc => by
    rw [Bool.eq_false_iff]; intro z; have := Nat.le_of_ble_eq_true z; omega
  have he : ∀ c, c < 44 → Nat.beq j c = false := fun c hc => by
    rw [Bool.eq_false_iff]; intro z; have := Nat.eq_of_beq_eq_true z; omega
  unfold z_xa0
  simp only [hb 0 (by decide), hb 1 (by decide), hb 2 (by decide), hb 3 (by decide), hb 4 (by decide), hb 5 (by decide), hb 6 (by decide), hb 7 (by decide), hb 8 (by decide), hb 9 (by decide), hb 10 (by decide), hb 11 (by decide), hb 12 (by decide), hb 13 (by decide), hb 14 (by decide), hb 15 (by decide), hb 16 (by decide), hb 17 (by decide), hb 18 (by decide), hb 19 (by decide), hb 20 (by decide), hb 21 (by decide), hb 22 (by decide), hb 23 (by decide), hb 24 (by decide), hb 25 (by decide), hb 26 (by decide), hb 27 (by decide), hb 28 (by decide), hb 29 (by decide), hb 30 (by decide), hb 31 (by decide), hb 32 (by decide), hb 33 (by decide), hb 34 (by decide), hb 35 (by decide), hb 36 (by decide), hb 37 (by decide), hb 38 (by decide), hb 39 (by decide), hb 40 (by decide), hb 41 (by decide), hb 42 (by decide), hb 43 (by decide), he 0 (by decide), he 1 (by decide), he 2 (by decide), he 3 (by decide), he 4 (by decide), he 5 (by decide), he 6 (by decide), he 7 (by decide), he 8 (by decide), he 9 (by decide), he 10 (by decide), he 11 (by decide), he 12 (by decide), he 13 (by decide), he 14 (by decide), he 15 (by decide), he 16 (by decide), he 17 (by decide), he 18 (by decide), he 19 (by decide), he 20 (by decide), he 21 (by decide), he 22 (by decide), he 23 (by decide), he 24 (by decide), he 25 (by decide), he 26 (by decide), he 27 (by decide), he 28 (by decide), he 29 (by decide), he 30 (by decide), he 31 (by decide), he 32 (by decide), he 33 (by decide), he 34 (by decide), he 35 (by decide), he 36 (by decide), he 37 (by decide), he 38 (by decide), he 39 (by decide), he 40 (by decide), he 41 (by decide), he 42 (by decide), he 43 (by decide), cond_false]
theorem z_xa_fst (L : Nat) (xs : Nat → Int32) (j : Nat) : (z_xa0 L xs j).1 = (z_xa0 0 (fun _ => 0) j).1 := by
  unfold z_xa0
  repeat' (first | rfl | refine z_cond_fst ?_ ?_)
theorem z_xa_1 (L : Nat) (xs : Nat → Int32) (j : Nat) (h : (z_xa0 L xs j).1 = 1) : j = 0 ∨ j = 1 := by
  by_cases hj : j < 44
  · have key : ∀ j, j < 44 → ((z_xa0 0 (fun _ => 0) j).1 = 1 → j = 0 ∨ j = 1) := by decide +kernel
    rw [z_xa_fst] at h
    exact key j hj h
  · rw [z_xa_hi L xs j (by omega)] at h
    cases h
theorem z_xa_2 (L : Nat) (xs : Nat → Int32) (j : Nat) (h : (z_xa0 L xs j).1 = 2) : ∃ i, i < 21 ∧ j = 3 + 2 * i := by
  by_cases hj : j < 44
  · have key : ∀ j, j < 44 → ((z_xa0 0 (fun _ => 0) j).1 = 2 → (j - 3) / 2 < 21 ∧ j = 3 + 2 * ((j - 3) / 2)) := by decide +kernel
    rw [z_xa_fst] at h
    exact ⟨_, key j hj h⟩
  · rw [z_xa_hi L xs j (by omega)] at h
    cases h
theorem z_xa_s (L : Nat) (xs : Nat → Int32) : ∀ i, i < 21 → (z_xa0 L xs (3 + 2 * i)).2.1 = z_tl.getD i 0 ∧ (z_xa0 L xs (3 + 2 * i)).2.2 = fun k => (z_tb2.getD i []).getD k 0 := by
  intro i hi
  match i, hi with
  | 0, _ => exact ⟨rfl, rfl⟩
  | 1, _ => exact ⟨rfl, rfl⟩
  | 2, _ => exact ⟨rfl, rfl⟩
  | 3, _ => exact ⟨rfl, rfl⟩
  | 4, _ => exact ⟨rfl, rfl⟩
  | 5, _ => exact ⟨rfl, rfl⟩
  | 6, _ => exact ⟨rfl, rfl⟩
  | 7, _ => exact ⟨rfl, rfl⟩
  | 8, _ => exact ⟨rfl, rfl⟩
  | 9, _ => exact ⟨rfl, rfl⟩
  | 10, _ => exact ⟨rfl, rfl⟩
  | 11, _ => exact ⟨rfl, rfl⟩
  | 12, _ => exact ⟨rfl, rfl⟩
  | 13, _ => exact ⟨rfl, rfl⟩
  | 14, _ => exact ⟨rfl, rfl⟩
  | 15, _ => exact ⟨rfl, rfl⟩
  | 16, _ => exact ⟨rfl, rfl⟩
  | 17, _ => exact ⟨rfl, rfl⟩
  | 18, _ => exact ⟨rfl, rfl⟩
  | 19, _ => exact ⟨rfl, rfl⟩
  | 20, _ => exact ⟨rfl, rfl⟩
  | _ + 21, h => exact absurd h (by omega)
