theorem gchM_0 : gchM 0 = true := by decide +kernel
theorem gchM_1 : gchM 1 = true := by decide +kernel
theorem gchM_2 : gchM 2 = true := by decide +kernel
theorem gchM_3 : gchM 3 = true := by decide +kernel
theorem gchM_4 : gchM 4 = true := by decide +kernel
theorem gchM_5 : gchM 5 = true := by decide +kernel
theorem gchM_6 : gchM 6 = true := by decide +kernel
theorem gchM_7 : gchM 7 = true := by decide +kernel
theorem gchM_8 : gchM 8 = true := by decide +kernel
theorem gchM_9 : gchM 9 = true := by decide +kernel
theorem gchM_10 : gchM 10 = true := by decide +kernel
theorem gchM_11 : gchM 11 = true := by decide +kernel
theorem gchM_12 : gchM 12 = true := by decide +kernel
theorem gchM_13 : gchM 13 = true := by decide +kernel
theorem gchM_14 : gchM 14 = true := by decide +kernel
theorem gchM_15 : gchM 15 = true := by decide +kernel
theorem gchM_16 : gchM 16 = true := by decide +kernel
theorem gchM_17 : gchM 17 = true := by decide +kernel
theorem gchM_18 : gchM 18 = true := by decide +kernel
theorem gchM_19 : gchM 19 = true := by decide +kernel
theorem gchM_20 : gchM 20 = true := by decide +kernel
theorem gchM_21 : gchM 21 = true := by decide +kernel
theorem gchM_22 : gchM 22 = true := by decide +kernel
theorem gchM_23 : gchM 23 = true := by decide +kernel
theorem gchM_24 : gchM 24 = true := by decide +kernel
theorem gchM_25 : gchM 25 = true := by decide +kernel
theorem gchM_26 : gchM 26 = true := by decide +kernel
theorem gchM_27 : gchM 27 = true := by decide +kernel
theorem gchM_28 : gchM 28 = true := by decide +kernel
theorem gchM_29 : gchM 29 = true := by decide +kernel
theorem gchM_30 : gchM 30 = true := by decide +kernel
theorem gchM_31 : gchM 31 = true := by decide +kernel
theorem gchM_32 : gchM 32 = true := by decide +kernel
theorem gchM_33 : gchM 33 = true := by decide +kernel
theorem gchM_34 : gchM 34 = true := by decide +kernel
theorem gchM_35 : gchM 35 = true := by decide +kernel
theorem gchM_36 : gchM 36 = true := by decide +kernel
theorem gchM_37 : gchM 37 = true := by decide +kernel
theorem gchM_38 : gchM 38 = true := by decide +kernel
theorem gchM_39 : gchM 39 = true := by decide +kernel
theorem gchM_40 : gchM 40 = true := by decide +kernel
theorem gchM_41 : gchM 41 = true := by decide +kernel
theorem gchM_42 : gchM 42 = true := by decide +kernel
theorem gchM_43 : gchM 43 = true := by decide +kernel
theorem gchM_44 : gchM 44 = true := by decide +kernel
theorem gchM_45 : gchM 45 = true := by decide +kernel
theorem gchM_46 : gchM 46 = true := by decide +kernel
theorem gchM_47 : gchM 47 = true := by decide +kernel
theorem gchM_48 : gchM 48 = true := by decide +kernel
theorem gchM_49 : gchM 49 = true := by decide +kernel
theorem gchM_50 : gchM 50 = true := by decide +kernel
theorem gchM_51 : gchM 51 = true := by decide +kernel
theorem gchM_52 : gchM 52 = true := by decide +kernel
theorem gchM_53 : gchM 53 = true := by decide +kernel
theorem gchM_54 : gchM 54 = true := by decide +kernel
theorem gchM_55 : gchM 55 = true := by decide +kernel
theorem gchM_56 : gchM 56 = true := by decide +kernel
theorem gchM_57 : gchM 57 = true := by decide +kernel
theorem gchM_58 : gchM 58 = true := by decide +kernel
theorem gchM_59 : gchM 59 = true := by decide +kernel
theorem gchM_60 : gchM 60 = true := by decide +kernel
theorem gchM_61 : gchM 61 = true := by decide +kernel
theorem gchM_62 : gchM 62 = true := by decide +kernel
theorem gchM_63 : gchM 63 = true := by decide +kernel
theorem gchM_64 : gchM 64 = true := by decide +kernel
theorem gchM_65 : gchM 65 = true := by decide +kernel
theorem gchM_66 : gchM 66 = true := by decide +kernel
theorem gchM_67 : gchM 67 = true := by decide +kernel
theorem gchM_68 : gchM 68 = true := by decide +kernel
theorem gchM_69 : gchM 69 = true := by decide +kernel
theorem gchM_70 : gchM 70 = true := by decide +kernel
theorem gchM_71 : gchM 71 = true := by decide +kernel
theorem gchL_72_0 : (List.range 60).all (fun i => match (gmiOf 72).1 (0 + i) with | none => true | some e => gchE 72 (0 + i) e) = true := by decide +kernel
theorem gchL_72_1 : (List.range 60).all (fun i => match (gmiOf 72).1 (60 + i) with | none => true | some e => gchE 72 (60 + i) e) = true := by decide +kernel
theorem gchL_72_2 : (List.range 60).all (fun i => match (gmiOf 72).1 (120 + i) with | none => true | some e => gchE 72 (120 + i) e) = true := by decide +kernel
theorem gchL_72_3 : (List.range 60).all (fun i => match (gmiOf 72).1 (180 + i) with | none => true | some e => gchE 72 (180 + i) e) = true := by decide +kernel
theorem gchL_72_4 : (List.range 60).all (fun i => match (gmiOf 72).1 (240 + i) with | none => true | some e => gchE 72 (240 + i) e) = true := by decide +kernel
theorem gchL_72_5 : (List.range 60).all (fun i => match (gmiOf 72).1 (300 + i) with | none => true | some e => gchE 72 (300 + i) e) = true := by decide +kernel
theorem gchL_72_6 : (List.range 60).all (fun i => match (gmiOf 72).1 (360 + i) with | none => true | some e => gchE 72 (360 + i) e) = true := by decide +kernel
theorem gchL_72_7 : (List.range 60).all (fun i => match (gmiOf 72).1 (420 + i) with | none => true | some e => gchE 72 (420 + i) e) = true := by decide +kernel
theorem gchL_72_8 : (List.range 60).all (fun i => match (gmiOf 72).1 (480 + i) with | none => true | some e => gchE 72 (480 + i) e) = true := by decide +kernel
theorem gchM_72 : gchM 72 = true := by
  unfold gchM
  refine List.all_eq_true.mpr fun pc hp => ?_
  have hp : pc < 503 := List.mem_range.mp hp
  have go : ∀ {a : Nat}, (List.range 60).all (fun i => match (gmiOf 72).1 (a + i) with | none => true | some e => gchE 72 (a + i) e) = true → a ≤ pc → pc < a + 60 → (match (gmiOf 72).1 pc with | none => true | some e => gchE 72 pc e) = true := by
    intro a h h1 h2
    have h3 := List.all_eq_true.mp h (pc - a) (List.mem_range.mpr (by omega))
    rw [show a + (pc - a) = pc by omega] at h3
    exact h3
  rcases Nat.lt_or_ge pc 60 with q | q
  · exact go gchL_72_0 (by omega) (by omega)
  rcases Nat.lt_or_ge pc 120 with q | q
  · exact go gchL_72_1 (by omega) (by omega)
  rcases Nat.lt_or_ge pc 180 with q | q
  · exact go gchL_72_2 (by omega) (by omega)
  rcases Nat.lt_or_ge pc 240 with q | q
  · exact go gchL_72_3 (by omega) (by omega)
  rcases Nat.lt_or_ge pc 300 with q | q
  · exact go gchL_72_4 (by omega) (by omega)
  rcases Nat.lt_or_ge pc 360 with q | q
  · exact go gchL_72_5 (by omega) (by omega)
  rcases Nat.lt_or_ge pc 420 with q | q
  · exact go gchL_72_6 (by omega) (by omega)
  rcases Nat.lt_or_ge pc 480 with q | q
  · exact go gchL_72_7 (by omega) (by omega)
  exact go gchL_72_8 (by omega) (by omega)
theorem gchL_73_0 : (List.range 60).all (fun i => match (gmiOf 73).1 (0 + i) with | none => true | some e => gchE 73 (0 + i) e) = true := by decide +kernel
theorem gchL_73_1 : (List.range 60).all (fun i => match (gmiOf 73).1 (60 + i) with | none => true | some e => gchE 73 (60 + i) e) = true := by decide +kernel
theorem gchL_73_2 : (List.range 60).all (fun i => match (gmiOf 73).1 (120 + i) with | none => true | some e => gchE 73 (120 + i) e) = true := by decide +kernel
theorem gchL_73_3 : (List.range 60).all (fun i => match (gmiOf 73).1 (180 + i) with | none => true | some e => gchE 73 (180 + i) e) = true := by decide +kernel
theorem gchL_73_4 : (List.range 60).all (fun i => match (gmiOf 73).1 (240 + i) with | none => true | some e => gchE 73 (240 + i) e) = true := by decide +kernel
theorem gchL_73_5 : (List.range 60).all (fun i => match (gmiOf 73).1 (300 + i) with | none => true | some e => gchE 73 (300 + i) e) = true := by decide +kernel
theorem gchM_73 : gchM 73 = true := by
  unfold gchM
  refine List.all_eq_true.mpr fun pc hp => ?_
  have hp : pc < 305 := List.mem_range.mp hp
  have go : ∀ {a : Nat}, (List.range 60).all (fun i => match (gmiOf 73).1 (a + i) with | none => true | some e => gchE 73 (a + i) e) = true → a ≤ pc → pc < a + 60 → (match (gmiOf 73).1 pc with | none => true | some e => gchE 73 pc e) = true := by
    intro a h h1 h2
    have h3 := List.all_eq_true.mp h (pc - a) (List.mem_range.mpr (by omega))
    rw [show a + (pc - a) = pc by omega] at h3
    exact h3
  rcases Nat.lt_or_ge pc 60 with q | q
  · exact go gchL_73_0 (by omega) (by omega)
  rcases Nat.lt_or_ge pc 120 with q | q
  · exact go gchL_73_1 (by omega) (by omega)
  rcases Nat.lt_or_ge pc 180 with q | q
  · exact go gchL_73_2 (by omega) (by omega)
  rcases Nat.lt_or_ge pc 240 with q | q
  · exact go gchL_73_3 (by omega) (by omega)
  rcases Nat.lt_or_ge pc 300 with q | q
  · exact go gchL_73_4 (by omega) (by omega)
  exact go gchL_73_5 (by omega) (by omega)
theorem gchL_74_0 : (List.range 60).all (fun i => match (gmiOf 74).1 (0 + i) with | none => true | some e => gchE 74 (0 + i) e) = true := by decide +kernel
theorem gchL_74_1 : (List.range 60).all (fun i => match (gmiOf 74).1 (60 + i) with | none => true | some e => gchE 74 (60 + i) e) = true := by decide +kernel
theorem gchL_74_2 : (List.range 60).all (fun i => match (gmiOf 74).1 (120 + i) with | none => true | some e => gchE 74 (120 + i) e) = true := by decide +kernel
theorem gchL_74_3 : (List.range 60).all (fun i => match (gmiOf 74).1 (180 + i) with | none => true | some e => gchE 74 (180 + i) e) = true := by decide +kernel
theorem gchL_74_4 : (List.range 60).all (fun i => match (gmiOf 74).1 (240 + i) with | none => true | some e => gchE 74 (240 + i) e) = true := by decide +kernel
theorem gchL_74_5 : (List.range 60).all (fun i => match (gmiOf 74).1 (300 + i) with | none => true | some e => gchE 74 (300 + i) e) = true := by decide +kernel
theorem gchL_74_6 : (List.range 60).all (fun i => match (gmiOf 74).1 (360 + i) with | none => true | some e => gchE 74 (360 + i) e) = true := by decide +kernel
theorem gchL_74_7 : (List.range 60).all (fun i => match (gmiOf 74).1 (420 + i) with | none => true | some e => gchE 74 (420 + i) e) = true := by decide +kernel
theorem gchL_74_8 : (List.range 60).all (fun i => match (gmiOf 74).1 (480 + i) with | none => true | some e => gchE 74 (480 + i) e) = true := by decide +kernel
theorem gchL_74_9 : (List.range 60).all (fun i => match (gmiOf 74).1 (540 + i) with | none => true | some e => gchE 74 (540 + i) e) = true := by decide +kernel
theorem gchL_74_10 : (List.range 60).all (fun i => match (gmiOf 74).1 (600 + i) with | none => true | some e => gchE 74 (600 + i) e) = true := by decide +kernel
theorem gchL_74_11 : (List.range 60).all (fun i => match (gmiOf 74).1 (660 + i) with | none => true | some e => gchE 74 (660 + i) e) = true := by decide +kernel
theorem gchL_74_12 : (List.range 60).all (fun i => match (gmiOf 74).1 (720 + i) with | none => true | some e => gchE 74 (720 + i) e) = true := by decide +kernel
theorem gchL_74_13 : (List.range 60).all (fun i => match (gmiOf 74).1 (780 + i) with | none => true | some e => gchE 74 (780 + i) e) = true := by decide +kernel
theorem gchL_74_14 : (List.range 60).all (fun i => match (gmiOf 74).1 (840 + i) with | none => true | some e => gchE 74 (840 + i) e) = true := by decide +kernel
theorem gchL_74_15 : (List.range 60).all (fun i => match (gmiOf 74).1 (900 + i) with | none => true | some e => gchE 74 (900 + i) e) = true := by decide +kernel
theorem gchL_74_16 : (List.range 60).all (fun i => match (gmiOf 74).1 (960 + i) with | none => true | some e => gchE 74 (960 + i) e) = true := by decide +kernel
theorem gchL_74_17 : (List.range 60).all (fun i => match (gmiOf 74).1 (1020 + i) with | none => true | some e => gchE 74 (1020 + i) e) = true := by decide +kernel
theorem gchL_74_18 : (List.range 60).all (fun i => match (gmiOf 74).1 (1080 + i) with | none => true | some e => gchE 74 (1080 + i) e) = true := by decide +kernel
theorem gchL_74_19 : (List.range 60).all (fun i => match (gmiOf 74).1 (1140 + i) with | none => true | some e => gchE 74 (1140 + i) e) = true := by decide +kernel
theorem gchL_74_20 : (List.range 60).all (fun i => match (gmiOf 74).1 (1200 + i) with | none => true | some e => gchE 74 (1200 + i) e) = true := by decide +kernel
theorem gchM_74 : gchM 74 = true := by
  unfold gchM
  refine List.all_eq_true.mpr fun pc hp => ?_
  have hp : pc < 1236 := List.mem_range.mp hp
  have go : ∀ {a : Nat}, (List.range 60).all (fun i => match (gmiOf 74).1 (a + i) with | none => true | some e => gchE 74 (a + i) e) = true → a ≤ pc → pc < a + 60 → (match (gmiOf 74).1 pc with | none => true | some e => gchE 74 pc e) = true := by
    intro a h h1 h2
    have h3 := List.all_eq_true.mp h (pc - a) (List.mem_range.mpr (by omega))
    rw [show a + (pc - a) = pc by omega] at h3
    exact h3
  rcases Nat.lt_or_ge pc 60 with q | q
  · exact go gchL_74_0 (by omega) (by omega)
  rcases Nat.lt_or_ge pc 120 with q | q
  · exact go gchL_74_1 (by omega) (by omega)
  rcases Nat.lt_or_ge pc 180 with q | q
  · exact go gchL_74_2 (by omega) (by omega)
  rcases Nat.lt_or_ge pc 240 with q | q
  · exact go gchL_74_3 (by omega) (by omega)
  rcases Nat.lt_or_ge pc 300 with q | q
  · exact go gchL_74_4 (by omega) (by omega)
  rcases Nat.lt_or_ge pc 360 with q | q
  · exact go gchL_74_5 (by omega) (by omega)
  rcases Nat.lt_or_ge pc 420 with q | q
  · exact go gchL_74_6 (by omega) (by omega)
  rcases Nat.lt_or_ge pc 480 with q | q
  · exact go gchL_74_7 (by omega) (by omega)
  rcases Nat.lt_or_ge pc 540 with q | q
  · exact go gchL_74_8 (by omega) (by omega)
  rcases Nat.lt_or_ge pc 600 with q | q
  · exact go gchL_74_9 (by omega) (by omega)
  rcases Nat.lt_or_ge pc 660 with q | q
  · exact go gchL_74_10 (by omega) (by omega)
  rcases Nat.lt_or_ge pc 720 with q | q
  · exact go gchL_74_11 (by omega) (by omega)
  rcases Nat.lt_or_ge pc 780 with q | q
  · exact go gchL_74_12 (by omega) (by omega)
  rcases Nat.lt_or_ge pc 840 with q | q
  · exact go gchL_74_13 (by omega) (by omega)
  rcases Nat.lt_or_ge pc 900 with q | q
  · exact go gchL_74_14 (by omega) (by omega)
  rcases Nat.lt_or_ge pc 960 with q | q
  · exact go gchL_74_15 (by omega) (by omega)
  rcases Nat.lt_or_ge pc 1020 with q | q
  · exact go gchL_74_16 (by omega) (by omega)
  rcases Nat.lt_or_ge pc 1080 with q | q
  · exact go gchL_74_17 (by omega) (by omega)
  rcases Nat.lt_or_ge pc 1140 with q | q
  · exact go gchL_74_18 (by omega) (by omega)
  rcases Nat.lt_or_ge pc 1200 with q | q
  · exact go gchL_74_19 (by omega) (by omega)
  exact go gchL_74_20 (by omega) (by omega)
theorem gchK_0 : gchK 0 = true := by decide +kernel
theorem gchK_1 : gchK 1 = true := by decide +kernel
theorem gchK_2 : gchK 2 = true := by decide +kernel
theorem gchK_3 : gchK 3 = true := by decide +kernel
theorem gchK_4 : gchK 4 = true := by decide +kernel
theorem gchK_5 : gchK 5 = true := by decide +kernel
theorem gchK_6 : gchK 6 = true := by decide +kernel
theorem gchK_7 : gchK 7 = true := by decide +kernel
theorem gchK_8 : gchK 8 = true := by decide +kernel
theorem gchK_9 : gchK 9 = true := by decide +kernel
theorem gchK_10 : gchK 10 = true := by decide +kernel
theorem gchK_11 : gchK 11 = true := by decide +kernel
theorem gchK_12 : gchK 12 = true := by decide +kernel
theorem gchK_13 : gchK 13 = true := by decide +kernel
theorem gchK_14 : gchK 14 = true := by decide +kernel
theorem gchK_15 : gchK 15 = true := by decide +kernel
theorem gchK_16 : gchK 16 = true := by decide +kernel
theorem gchK_17 : gchK 17 = true := by decide +kernel
theorem gchK_18 : gchK 18 = true := by decide +kernel
theorem gchK_19 : gchK 19 = true := by decide +kernel
theorem gchK_20 : gchK 20 = true := by decide +kernel
theorem gchK_21 : gchK 21 = true := by decide +kernel
theorem gchK_22 : gchK 22 = true := by decide +kernel
theorem gchK_23 : gchK 23 = true := by decide +kernel
theorem gchK_24 : gchK 24 = true := by decide +kernel
theorem gchK_25 : gchK 25 = true := by decide +kernel
theorem gchK_26 : gchK 26 = true := by decide +kernel
theorem gchK_27 : gchK 27 = true := by decide +kernel
theorem gchK_28 : gchK 28 = true := by decide +kernel
theorem gchK_29 : gchK 29 = true := by decide +kernel
theorem gchK_30 : gchK 30 = true := by decide +kernel
theorem gchK_31 : gchK 31 = true := by decide +kernel
theorem gchK_32 : gchK 32 = true := by decide +kernel
theorem gchK_33 : gchK 33 = true := by decide +kernel
theorem gchK_34 : gchK 34 = true := by decide +kernel
theorem gchK_35 : gchK 35 = true := by decide +kernel
theorem gchK_36 : gchK 36 = true := by decide +kernel
theorem gchK_37 : gchK 37 = true := by decide +kernel
theorem gchK_38 : gchK 38 = true := by decide +kernel
theorem gchK_39 : gchK 39 = true := by decide +kernel
theorem gchK_40 : gchK 40 = true := by decide +kernel
theorem gchK_41 : gchK 41 = true := by decide +kernel
theorem gchK_42 : gchK 42 = true := by decide +kernel
theorem gchK_43 : gchK 43 = true := by decide +kernel
theorem gchK_44 : gchK 44 = true := by decide +kernel
theorem gchK_45 : gchK 45 = true := by decide +kernel
theorem gchK_46 : gchK 46 = true := by decide +kernel
theorem gchK_47 : gchK 47 = true := by decide +kernel
theorem gchK_48 : gchK 48 = true := by decide +kernel
theorem gchK_49 : gchK 49 = true := by decide +kernel
theorem gchK_50 : gchK 50 = true := by decide +kernel
theorem gchK_51 : gchK 51 = true := by decide +kernel
theorem gchK_52 : gchK 52 = true := by decide +kernel
theorem gchK_53 : gchK 53 = true := by decide +kernel
theorem gchK_54 : gchK 54 = true := by decide +kernel
theorem gchK_55 : gchK 55 = true := by decide +kernel
theorem gchK_56 : gchK 56 = true := by decide +kernel
theorem gchK_57 : gchK 57 = true := by decide +kernel
theorem gchK_58 : gchK 58 = true := by decide +kernel
theorem gchK_59 : gchK 59 = true := by decide +kernel
theorem gchK_60 : gchK 60 = true := by decide +kernel
theorem gchK_61 : gchK 61 = true := by decide +kernel
theorem gchK_62 : gchK 62 = true := by decide +kernel
theorem gchK_63 : gchK 63 = true := by decide +kernel
theorem gchK_64 : gchK 64 = true := by decide +kernel
theorem gchK_65 : gchK 65 = true := by decide +kernel
theorem gchK_66 : gchK 66 = true := by decide +kernel
theorem gchK_67 : gchK 67 = true := by decide +kernel
theorem gchK_68 : gchK 68 = true := by decide +kernel
theorem gchK_69 : gchK 69 = true := by decide +kernel
theorem gchK_70 : gchK 70 = true := by decide +kernel
theorem gchK_71 : gchK 71 = true := by decide +kernel
theorem gchK_72 : gchK 72 = true := by decide +kernel
theorem gchK_73 : gchK 73 = true := by decide +kernel
