/-! the objects: (5, class, fields: 0 int, 1 long, j + 2 the object j), (0..3, length, []) an array of int, byte, boolean, long, (4, rows, [length]) an int[][] -/
def skl : List (Nat × Nat × List Nat) := [(5, 10, [3, 4, 5, 6, 8, 9, 10, 11, 12, 13, 0]),
  (5, 6, [15, 0, 0]),
  (5, 9, [16, 17, 18, 19, 20, 21, 0, 0, 1, 0]),
  (5, 0, [22, 23, 24, 25, 26, 0, 0, 0, 0, 0]),
  (5, 1, [3, 7, 0, 0, 0]),
  (5, 0, [27, 28, 29, 30, 31, 0, 0, 0, 0, 0]),
  (5, 5, [4, 5, 32, 33, 34, 35, 36, 37, 0, 0, 0]),
  (5, 8, [4, 8, 38, 39, 40, 41, 42, 43, 0, 0, 0, 0, 0, 0, 0, 0, 0]),
  (5, 2, [4, 8, 9, 44, 45, 46, 47, 0, 0, 0, 1, 0]),
  (5, 3, [4, 3, 48, 49, 0, 0, 0]),
  (5, 7, [4, 3, 8, 11, 50, 51, 52, 53, 54, 55, 0, 0]),
  (5, 4, [4, 56, 57, 58, 59, 1, 0, 0, 0]),
  (5, 11, [0, 0, 0, 60, 61, 62, 63, 64, 65, 0, 66, 0, 0, 0, 0, 0, 0, 0, 0, 0, 0, 67, 68, 69, 70, 71, 72, 73, 74, 75, 76, 77, 78, 79, 80, 81, 82, 83, 84, 85, 86, 0, 0, 0, 87, 88, 89, 90, 91, 92, 93, 94, 95, 0]),
  (0, 200, []),
  (4, 40, [8]),
  (0, 40, []),
  (3, 40, []),
  (0, 40, []),
  (0, 40, []),
  (2, 40, []),
  (0, 400, []),
  (0, 12, []),
  (0, 12, []),
  (0, 9, []),
  (0, 32, []),
  (0, 400, []),
  (0, 12, []),
  (0, 12, []),
  (0, 9, []),
  (0, 32, []),
  (4, 40, [40]),
  (4, 40, [40]),
  (4, 40, [40]),
  (4, 40, [40]),
  (4, 40, [40]),
  (3, 40, []),
  (4, 40, [40]),
  (3, 40, []),
  (0, 40, []),
  (3, 40, []),
  (3, 40, []),
  (2, 40, []),
  (0, 32768, []),
  (0, 16000, []),
  (3, 16000, []),
  (3, 16000, []),
  (0, 12, []),
  (0, 9, []),
  (0, 14, []),
  (0, 100, []),
  (0, 10240, []),
  (0, 12, []),
  (0, 4096, []),
  (2, 16384, []),
  (3, 104, []),
  (3, 20, []),
  (0, 4, []),
  (0, 4, []),
  (0, 40, []),
  (0, 320, []),
  (0, 40, []),
  (0, 40, []),
  (2, 40, []),
  (0, 12, []),
  (1, 200, []),
  (0, 180, []),
  (0, 180, []),
  (0, 12, []),
  (0, 12, []),
  (0, 12, []),
  (0, 12, []),
  (0, 180, []),
  (0, 12, []),
  (0, 12, []),
  (0, 12, []),
  (0, 12, []),
  (0, 180, []),
  (0, 9, []),
  (0, 1600, []),
  (0, 1600, []),
  (0, 1600, []),
  (0, 1600, []),
  (3, 40, []),
  (2, 40, []),
  (0, 8, []),
  (0, 40, []),
  (3, 40, []),
  (3, 40, []),
  (0, 14, []),
  (0, 53248, []),
  (0, 117, []),
  (0, 14, []),
  (0, 4, []),
  (0, 4, [])]
theorem sk_0 : skl[0]? = some (5, 10, [3, 4, 5, 6, 8, 9, 10, 11, 12, 13, 0]) := rfl -- L
theorem sk_1 : skl[1]? = some (5, 6, [15, 0, 0]) := rfl -- tape
theorem sk_2 : skl[2]? = some (5, 9, [16, 17, 18, 19, 20, 21, 0, 0, 1, 0]) := rfl -- words
theorem sk_3 : skl[3]? = some (5, 0, [22, 23, 24, 25, 26, 0, 0, 0, 0, 0]) := rfl -- lawc
theorem sk_4 : skl[4]? = some (5, 1, [3, 7, 0, 0, 0]) := rfl -- reader
theorem sk_5 : skl[5]? = some (5, 0, [27, 28, 29, 30, 31, 0, 0, 0, 0, 0]) := rfl -- out
theorem sk_6 : skl[6]? = some (5, 5, [4, 5, 32, 33, 34, 35, 36, 37, 0, 0, 0]) := rfl -- steps
theorem sk_7 : skl[7]? = some (5, 8, [4, 8, 38, 39, 40, 41, 42, 43, 0, 0, 0, 0, 0, 0, 0, 0, 0]) := rfl -- ways
theorem sk_8 : skl[8]? = some (5, 2, [4, 8, 9, 44, 45, 46, 47, 0, 0, 0, 1, 0]) := rfl -- newWords
theorem sk_9 : skl[9]? = some (5, 3, [4, 3, 48, 49, 0, 0, 0]) := rfl -- spelling
theorem sk_10 : skl[10]? = some (5, 7, [4, 3, 8, 11, 50, 51, 52, 53, 54, 55, 0, 0]) := rfl -- told
theorem sk_11 : skl[11]? = some (5, 4, [4, 56, 57, 58, 59, 1, 0, 0, 0]) := rfl -- squares
theorem sk_12 : skl[12]? = some (5, 11, [0, 0, 0, 60, 61, 62, 63, 64, 65, 0, 66, 0, 0, 0, 0, 0, 0, 0, 0, 0, 0, 67, 68, 69, 70, 71, 72, 73, 74, 75, 76, 77, 78, 79, 80, 81, 82, 83, 84, 85, 86, 0, 0, 0, 87, 88, 89, 90, 91, 92, 93, 94, 95, 0]) := rfl -- M
theorem sk_13 : skl[13]? = some (0, 200, []) := rfl -- tape_bytes
theorem sk_14 : skl[14]? = some (4, 40, [8]) := rfl -- words_letters
theorem sk_15 : skl[15]? = some (0, 40, []) := rfl -- words_length
theorem sk_16 : skl[16]? = some (3, 40, []) := rfl -- words_keys
theorem sk_17 : skl[17]? = some (0, 40, []) := rfl -- words_known
theorem sk_18 : skl[18]? = some (0, 40, []) := rfl -- words_tongues
theorem sk_19 : skl[19]? = some (2, 40, []) := rfl -- words_barred
theorem sk_20 : skl[20]? = some (0, 400, []) := rfl -- lawc_code
theorem sk_21 : skl[21]? = some (0, 12, []) := rfl -- lawc_costAt
theorem sk_22 : skl[22]? = some (0, 12, []) := rfl -- lawc_conditionAt
theorem sk_23 : skl[23]? = some (0, 9, []) := rfl -- lawc_named
theorem sk_24 : skl[24]? = some (0, 32, []) := rfl -- lawc_held
theorem sk_25 : skl[25]? = some (0, 400, []) := rfl -- out_code
theorem sk_26 : skl[26]? = some (0, 12, []) := rfl -- out_costAt
theorem sk_27 : skl[27]? = some (0, 12, []) := rfl -- out_conditionAt
theorem sk_28 : skl[28]? = some (0, 9, []) := rfl -- out_named
theorem sk_29 : skl[29]? = some (0, 32, []) := rfl -- out_held
theorem sk_30 : skl[30]? = some (4, 40, [40]) := rfl -- steps_kind
theorem sk_31 : skl[31]? = some (4, 40, [40]) := rfl -- steps_firstPlace
theorem sk_32 : skl[32]? = some (4, 40, [40]) := rfl -- steps_lastPlace
theorem sk_33 : skl[33]? = some (4, 40, [40]) := rfl -- steps_cost
theorem sk_34 : skl[34]? = some (4, 40, [40]) := rfl -- steps_place
theorem sk_35 : skl[35]? = some (3, 40, []) := rfl -- steps_next
theorem sk_36 : skl[36]? = some (4, 40, [40]) := rfl -- ways_weight
theorem sk_37 : skl[37]? = some (3, 40, []) := rfl -- ways_reach
theorem sk_38 : skl[38]? = some (0, 40, []) := rfl -- ways_leader
theorem sk_39 : skl[39]? = some (3, 40, []) := rfl -- ways_counts
theorem sk_40 : skl[40]? = some (3, 40, []) := rfl -- ways_countsBefore
theorem sk_41 : skl[41]? = some (2, 40, []) := rfl -- ways_done
theorem sk_42 : skl[42]? = some (0, 32768, []) := rfl -- newWords_slots
theorem sk_43 : skl[43]? = some (0, 16000, []) := rfl -- newWords_slotOfRow
theorem sk_44 : skl[44]? = some (3, 16000, []) := rfl -- newWords_keys
theorem sk_45 : skl[45]? = some (3, 16000, []) := rfl -- newWords_joins
theorem sk_46 : skl[46]? = some (0, 12, []) := rfl -- spelling_text
theorem sk_47 : skl[47]? = some (0, 9, []) := rfl -- spelling_row
theorem sk_48 : skl[48]? = some (0, 14, []) := rfl -- told_list
theorem sk_49 : skl[49]? = some (0, 100, []) := rfl -- told_stepCost
theorem sk_50 : skl[50]? = some (0, 10240, []) := rfl -- told_restCost
theorem sk_51 : skl[51]? = some (0, 12, []) := rfl -- told_stepBits
theorem sk_52 : skl[52]? = some (0, 4096, []) := rfl -- told_winsFrom
theorem sk_53 : skl[53]? = some (2, 16384, []) := rfl -- told_isApart
theorem sk_54 : skl[54]? = some (3, 104, []) := rfl -- squares_withLetter
theorem sk_55 : skl[55]? = some (3, 20, []) := rfl -- squares_open
theorem sk_56 : skl[56]? = some (0, 4, []) := rfl -- squares_chosen
theorem sk_57 : skl[57]? = some (0, 4, []) := rfl -- squares_first
theorem sk_58 : skl[58]? = some (0, 40, []) := rfl -- M_lengthOf
theorem sk_59 : skl[59]? = some (0, 320, []) := rfl -- M_letterOf
theorem sk_60 : skl[60]? = some (0, 40, []) := rfl -- M_knownOf
theorem sk_61 : skl[61]? = some (0, 40, []) := rfl -- M_tonguesOf
theorem sk_62 : skl[62]? = some (2, 40, []) := rfl -- M_isBarred
theorem sk_63 : skl[63]? = some (0, 12, []) := rfl -- M_row0
theorem sk_64 : skl[64]? = some (1, 200, []) := rfl -- M_tape
theorem sk_65 : skl[65]? = some (0, 180, []) := rfl -- M_said
theorem sk_66 : skl[66]? = some (0, 180, []) := rfl -- M_waits
theorem sk_67 : skl[67]? = some (0, 12, []) := rfl -- M_saidLetter
theorem sk_68 : skl[68]? = some (0, 12, []) := rfl -- M_saidFrom
theorem sk_69 : skl[69]? = some (0, 12, []) := rfl -- M_saidHalf
theorem sk_70 : skl[70]? = some (0, 12, []) := rfl -- M_saidTo
theorem sk_71 : skl[71]? = some (0, 180, []) := rfl -- M_codes
theorem sk_72 : skl[72]? = some (0, 12, []) := rfl -- M_clauseOf
theorem sk_73 : skl[73]? = some (0, 12, []) := rfl -- M_codeFrom
theorem sk_74 : skl[74]? = some (0, 12, []) := rfl -- M_codeHalf
theorem sk_75 : skl[75]? = some (0, 12, []) := rfl -- M_codeTo
theorem sk_76 : skl[76]? = some (0, 180, []) := rfl -- M_stack
theorem sk_77 : skl[77]? = some (0, 9, []) := rfl -- M_facts
theorem sk_78 : skl[78]? = some (0, 1600, []) := rfl -- M_stepCost
theorem sk_79 : skl[79]? = some (0, 1600, []) := rfl -- M_stepKind
theorem sk_80 : skl[80]? = some (0, 1600, []) := rfl -- M_stepPlace
theorem sk_81 : skl[81]? = some (0, 1600, []) := rfl -- M_wayOf
theorem sk_82 : skl[82]? = some (3, 40, []) := rfl -- M_waysFrom
theorem sk_83 : skl[83]? = some (2, 40, []) := rfl -- M_isCome
theorem sk_84 : skl[84]? = some (0, 8, []) := rfl -- M_newRow
theorem sk_85 : skl[85]? = some (0, 40, []) := rfl -- M_heapAt
theorem sk_86 : skl[86]? = some (3, 40, []) := rfl -- M_walksTo
theorem sk_87 : skl[87]? = some (3, 40, []) := rfl -- M_walksThen
theorem sk_88 : skl[88]? = some (0, 14, []) := rfl -- M_told
theorem sk_89 : skl[89]? = some (0, 53248, []) := rfl -- M_rest
theorem sk_90 : skl[90]? = some (0, 117, []) := rfl -- M_farOf
theorem sk_91 : skl[91]? = some (0, 14, []) := rfl -- M_tooNear
theorem sk_92 : skl[92]? = some (0, 4, []) := rfl -- M_squareRow
theorem sk_93 : skl[93]? = some (0, 4, []) := rfl -- M_firstSquare
def srows (q : Nat × Nat × List Nat) : Nat := if q.1 = 4 then q.2.1 else 0
def cells : List (Nat × Int) := (skl.zipIdx).flatMap (fun (q : (Nat × Nat × List Nat) × Nat) => (q.2, (-1 : Int)) :: (List.range (srows q.1)).map (fun (r : Nat) => (q.2, (r : Int))))
def startOf (o : Nat) : Nat := ((skl.take o).map (fun q => 1 + srows q)).sum
def posOf (o : Nat) (r : Int) : Nat := startOf o + (r + 1).toNat
theorem cells_pos_b : (List.range cells.length).all (fun j => match cells[j]? with | some q => posOf q.1 q.2 == j | none => true) = true := by decide +kernel
theorem cells_row_b : (List.range skl.length).all (fun o => match skl[o]? with | some q => cells[posOf o (-1)]? == some (o, -1) && (List.range (srows q)).all (fun r => cells[posOf o (r : Int)]? == some (o, (r : Int))) | none => true) = true := by decide +kernel
theorem cells_ref_b : skl.all (fun q => q.1 != 5 || q.2.2.all (fun f => f < 2 || f - 2 < skl.length)) = true := by decide +kernel
theorem cells_pos {j : Nat} {q : Nat × Int} (h : cells[j]? = some q) : posOf q.1 q.2 = j := by
  have hj : j < cells.length := (List.getElem?_eq_some_iff.mp h).1
  have h1 := List.all_eq_true.mp cells_pos_b j (List.mem_range.mpr hj)
  rw [h] at h1
  exact beq_iff_eq.mp h1
def vid (o : Nat) (r : Int) : Prop := cells[posOf o r]? = some (o, r)
theorem vid_obj {o : Nat} (h : o < skl.length) : vid o (-1) := by
  have h1 := List.all_eq_true.mp cells_row_b o (List.mem_range.mpr h)
  rw [List.getElem?_eq_getElem h] at h1
  exact beq_iff_eq.mp (Bool.and_eq_true_iff.mp h1).1
theorem vid_row {o n : Nat} {l : List Nat} (h : skl[o]? = some (4, n, l)) {r : Int} (h0 : 0 ≤ r) (h1 : r < n) : vid o r := by
  have hl : o < skl.length := (List.getElem?_eq_some_iff.mp h).1
  have h2 := List.all_eq_true.mp cells_row_b o (List.mem_range.mpr hl)
  rw [h] at h2
  have h3 := List.all_eq_true.mp (Bool.and_eq_true_iff.mp h2).2 r.toNat (List.mem_range.mpr (by show r.toNat < n; omega))
  have h4 := beq_iff_eq.mp h3
  have e : ((r.toNat : Nat) : Int) = r := Int.toNat_of_nonneg h0
  rw [e] at h4
  exact h4
theorem vid_ref {o c k j : Nat} {l : List Nat} (h : skl[o]? = some (5, c, l)) (hk : l[k]? = some (j + 2)) : vid j (-1) := by
  have h1 := List.all_eq_true.mp cells_ref_b _ (List.mem_of_getElem? h)
  have h2 := (Bool.or_eq_true_iff.mp h1)
  rcases h2 with h2 | h2
  · cases h2
  · have h3 := List.all_eq_true.mp h2 _ (List.mem_of_getElem? hk)
    rcases Bool.or_eq_true_iff.mp h3 with h4 | h4
    · have := of_decide_eq_true h4
      omega
    · exact vid_obj (by have := of_decide_eq_true h4; omega)
