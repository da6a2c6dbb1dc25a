/-! ===== p1: every call on the fresh objects ===== -/
set_option maxRecDepth 16384 in
theorem st_0 (a1 a2 a3 a4 a5 : Int32) : (lawStep 0 HM a1 a2 a3 a4 a5).isSome = true := by
  unfold lawStep
  exact ka_0 a1 a2 a3 a4 a5
set_option maxRecDepth 16384 in
theorem st_1 (a1 a2 a3 a4 a5 : Int32) : (lawStep 1 HM a1 a2 a3 a4 a5).isSome = true := by
  unfold lawStep
  exact ka_1 a1
set_option maxRecDepth 16384 in
theorem st_2 (a1 a2 a3 a4 a5 : Int32) : (lawStep 2 HM a1 a2 a3 a4 a5).isSome = true := by
  unfold lawStep
  exact kn_2
set_option maxRecDepth 16384 in
theorem st_3 (a1 a2 a3 a4 a5 : Int32) : (lawStep 3 HM a1 a2 a3 a4 a5).isSome = true := by
  unfold lawStep
  exact ka_3 a1
set_option maxRecDepth 16384 in
theorem st_4 (a1 a2 a3 a4 a5 : Int32) : (lawStep 4 HM a1 a2 a3 a4 a5).isSome = true := by
  unfold lawStep
  rcases range_or a1 1 9 (by decide) (by decide) with h | ⟨i, hi, rfl⟩
  · exact ko_4 h
  · exact ki_4 i (by omega)
set_option maxRecDepth 16384 in
theorem st_5 (a1 a2 a3 a4 a5 : Int32) : (lawStep 5 HM a1 a2 a3 a4 a5).isSome = true := by
  unfold lawStep
  rcases range_or a1 1 9 (by decide) (by decide) with h | ⟨i, hi, rfl⟩
  · exact ko_5 h
  · exact ki_5 i (by omega)
set_option maxRecDepth 16384 in
theorem st_6 (a1 a2 a3 a4 a5 : Int32) : (lawStep 6 HM a1 a2 a3 a4 a5).isSome = true := by
  unfold lawStep
  rcases outR_or a1 5 (by decide) with h | ⟨j, hj, rfl⟩
  · exact ko_6 h
  rcases outR_or a2 2 (by decide) with h | ⟨i, hi, rfl⟩
  · exact kp_6 hj h
  · exact ki_6 j hj i hi
set_option maxRecDepth 16384 in
theorem st_7 (a1 a2 a3 a4 a5 : Int32) : (lawStep 7 HM a1 a2 a3 a4 a5).isSome = true := by
  unfold lawStep
  rcases outR_or a1 5 (by decide) with h | ⟨j, hj, rfl⟩
  · exact ko_7 h
  · exact ki_7 j hj
set_option maxRecDepth 16384 in
theorem st_8 (a1 a2 a3 a4 a5 : Int32) : (lawStep 8 HM a1 a2 a3 a4 a5).isSome = true := by
  unfold lawStep
  rcases outR_or a1 2 (by decide) with h | ⟨j, hj, rfl⟩
  · exact ko_8 h
  rcases range_or a2 1 9999 (by decide) (by decide) with h | ⟨i, hi, rfl⟩
  · exact kp_8 hj h
  · exact ki_8 hj (by omega)
set_option maxRecDepth 16384 in
theorem st_9 (a1 a2 a3 a4 a5 : Int32) : (lawStep 9 HM a1 a2 a3 a4 a5).isSome = true := by
  unfold lawStep
  rcases outR_or a1 2 (by decide) with h | ⟨j, hj, rfl⟩
  · exact ko_9 h
  · exact ki_9 j hj
set_option maxRecDepth 16384 in
theorem st_10 (a1 a2 a3 a4 a5 : Int32) : (lawStep 10 HM a1 a2 a3 a4 a5).isSome = true := by
  unfold lawStep
  rcases outR_or a1 5 (by decide) with h | ⟨j, hj, rfl⟩
  · exact ko_10 h
  rcases range_or a2 1 50 (by decide) (by decide) with h | ⟨i, hi, rfl⟩
  · exact kp_10 hj h
  · exact ki_10 hj (by omega)
set_option maxRecDepth 16384 in
theorem st_11 (a1 a2 a3 a4 a5 : Int32) : (lawStep 11 HM a1 a2 a3 a4 a5).isSome = true := by
  unfold lawStep
  rcases range_or a1 1 999 (by decide) (by decide) with h | ⟨i, hi, rfl⟩
  · exact ko_11 h
  · exact ki_11 (by omega)
set_option maxRecDepth 16384 in
theorem st_12 (a1 a2 a3 a4 a5 : Int32) : (lawStep 12 HM a1 a2 a3 a4 a5).isSome = true := by
  unfold lawStep
  exact ka_12 a1 a2 a3
set_option maxRecDepth 16384 in
theorem st_13 (a1 a2 a3 a4 a5 : Int32) : (lawStep 13 HM a1 a2 a3 a4 a5).isSome = true := by
  unfold lawStep
  rcases range_or a1 1 50 (by decide) (by decide) with h | ⟨i, hi, rfl⟩
  · exact ko_13 h
  · exact ki_13 (by omega)
set_option maxRecDepth 16384 in
theorem st_14 (a1 a2 a3 a4 a5 : Int32) : (lawStep 14 HM a1 a2 a3 a4 a5).isSome = true := by
  unfold lawStep
  exact kn_14
set_option maxRecDepth 16384 in
theorem st_15 (a1 a2 a3 a4 a5 : Int32) : (lawStep 15 HM a1 a2 a3 a4 a5).isSome = true := by
  unfold lawStep
  exact kn_15
set_option maxRecDepth 16384 in
theorem st_16 (a1 a2 a3 a4 a5 : Int32) : (lawStep 16 HM a1 a2 a3 a4 a5).isSome = true := by
  unfold lawStep
  exact kn_16
set_option maxRecDepth 16384 in
theorem st_17 (a1 a2 a3 a4 a5 : Int32) : (lawStep 17 HM a1 a2 a3 a4 a5).isSome = true := by
  unfold lawStep
  exact kn_17
set_option maxRecDepth 16384 in
theorem st_18 (a1 a2 a3 a4 a5 : Int32) : (lawStep 18 HM a1 a2 a3 a4 a5).isSome = true := by
  unfold lawStep
  exact kn_18
set_option maxRecDepth 16384 in
theorem st_19 (a1 a2 a3 a4 a5 : Int32) : (lawStep 19 HM a1 a2 a3 a4 a5).isSome = true := by
  unfold lawStep
  exact kn_19
set_option maxRecDepth 16384 in
theorem st_20 (a1 a2 a3 a4 a5 : Int32) : (lawStep 20 HM a1 a2 a3 a4 a5).isSome = true := by
  unfold lawStep
  exact kn_20
set_option maxRecDepth 16384 in
theorem st_21 (a1 a2 a3 a4 a5 : Int32) : (lawStep 21 HM a1 a2 a3 a4 a5).isSome = true := by
  unfold lawStep
  exact kn_21
set_option maxRecDepth 16384 in
theorem st_22 (a1 a2 a3 a4 a5 : Int32) : (lawStep 22 HM a1 a2 a3 a4 a5).isSome = true := by
  unfold lawStep
  exact kn_22
set_option maxRecDepth 16384 in
theorem st_23 (a1 a2 a3 a4 a5 : Int32) : (lawStep 23 HM a1 a2 a3 a4 a5).isSome = true := by
  unfold lawStep
  exact kn_23
set_option maxRecDepth 16384 in
theorem st_24 (a1 a2 a3 a4 a5 : Int32) : (lawStep 24 HM a1 a2 a3 a4 a5).isSome = true := by
  unfold lawStep
  exact kn_24
set_option maxRecDepth 16384 in
theorem st_25 (a1 a2 a3 a4 a5 : Int32) : (lawStep 25 HM a1 a2 a3 a4 a5).isSome = true := by
  unfold lawStep
  rcases outR_or a1 2 (by decide) with h | ⟨j, hj, rfl⟩
  · exact ko_25 h
  · exact ki_25 j hj
set_option maxRecDepth 16384 in
theorem st_26 (a1 a2 a3 a4 a5 : Int32) : (lawStep 26 HM a1 a2 a3 a4 a5).isSome = true := by
  unfold lawStep
  rcases outR_or a1 5 (by decide) with h | ⟨j, hj, rfl⟩
  · exact ko_26 h
  · exact ki_26 j hj
set_option maxRecDepth 16384 in
theorem st_27 (a1 a2 a3 a4 a5 : Int32) : (lawStep 27 HM a1 a2 a3 a4 a5).isSome = true := by
  unfold lawStep
  rcases outR_or a1 5 (by decide) with h | ⟨j, hj, rfl⟩
  · exact ko_27 h
  · exact ki_27 j hj
set_option maxRecDepth 16384 in
theorem st_28 (a1 a2 a3 a4 a5 : Int32) : (lawStep 28 HM a1 a2 a3 a4 a5).isSome = true := by
  unfold lawStep
  rcases outR_or a1 5 (by decide) with h | ⟨j, hj, rfl⟩
  · exact ko_28 h
  · exact ki_28 j hj
set_option maxRecDepth 16384 in
theorem st_29 (a1 a2 a3 a4 a5 : Int32) : (lawStep 29 HM a1 a2 a3 a4 a5).isSome = true := by
  unfold lawStep
  rcases outR_or a1 5 (by decide) with h | ⟨j, hj, rfl⟩
  · exact ko_29 h
  · exact ki_29 j hj
set_option maxRecDepth 16384 in
theorem st_30 (a1 a2 a3 a4 a5 : Int32) : (lawStep 30 HM a1 a2 a3 a4 a5).isSome = true := by
  unfold lawStep
  rcases outR_or a1 5 (by decide) with h | ⟨j, hj, rfl⟩
  · exact ko_30 h
  · exact ki_30 j hj
set_option maxRecDepth 16384 in
theorem st_31 (a1 a2 a3 a4 a5 : Int32) : (lawStep 31 HM a1 a2 a3 a4 a5).isSome = true := by
  unfold lawStep
  rcases outR_or a1 5 (by decide) with h | ⟨j, hj, rfl⟩
  · exact ko_31 h
  · exact ki_31 j hj
set_option maxRecDepth 16384 in
theorem st_32 (a1 a2 a3 a4 a5 : Int32) : (lawStep 32 HM a1 a2 a3 a4 a5).isSome = true := by
  unfold lawStep
  rcases outR_or a1 5 (by decide) with h | ⟨j, hj, rfl⟩
  · exact ko_32 h
  · exact ki_32 j hj
set_option maxRecDepth 16384 in
theorem st_33 (a1 a2 a3 a4 a5 : Int32) : (lawStep 33 HM a1 a2 a3 a4 a5).isSome = true := by
  unfold lawStep
  rcases outR_or a1 5 (by decide) with h | ⟨j, hj, rfl⟩
  · exact ko_33 h
  · exact ki_33 j hj
set_option maxRecDepth 16384 in
theorem st_34 (a1 a2 a3 a4 a5 : Int32) : (lawStep 34 HM a1 a2 a3 a4 a5).isSome = true := by
  unfold lawStep
  rcases outR_or a1 5 (by decide) with h | ⟨j, hj, rfl⟩
  · exact ko_34 h
  rcases outR_or a2 5 (by decide) with h | ⟨i, hi, rfl⟩
  · exact kp_34 hj h
  · exact ki_34 j hj i hi
set_option maxRecDepth 16384 in
theorem st_35 (a1 a2 a3 a4 a5 : Int32) : (lawStep 35 HM a1 a2 a3 a4 a5).isSome = true := by
  unfold lawStep
  rcases outR_or a1 5 (by decide) with h | ⟨j, hj, rfl⟩
  · exact ko_35 h
  · exact ki_35 j hj
set_option maxRecDepth 16384 in
theorem st_36 (a1 a2 a3 a4 a5 : Int32) : (lawStep 36 HM a1 a2 a3 a4 a5).isSome = true := by
  unfold lawStep
  rcases outR_or a1 5 (by decide) with h | ⟨j, hj, rfl⟩
  · exact ko_36 h
  · exact ki_36 j hj
set_option maxRecDepth 16384 in
theorem st_37 (a1 a2 a3 a4 a5 : Int32) : (lawStep 37 HM a1 a2 a3 a4 a5).isSome = true := by
  unfold lawStep
  rcases outR_or a1 5 (by decide) with h | ⟨j, hj, rfl⟩
  · exact ko_37 h
  · exact ki_37 j hj
set_option maxRecDepth 16384 in
theorem st_38 (a1 a2 a3 a4 a5 : Int32) : (lawStep 38 HM a1 a2 a3 a4 a5).isSome = true := by
  unfold lawStep
  rcases outR_or a1 2 (by decide) with h | ⟨j, hj, rfl⟩
  · exact ko_38 h
  · exact ki_38 j hj
set_option maxRecDepth 16384 in
theorem st_39 (a1 a2 a3 a4 a5 : Int32) : (lawStep 39 HM a1 a2 a3 a4 a5).isSome = true := by
  unfold lawStep
  exact ka_39 a1 a2
set_option maxRecDepth 16384 in
theorem st_40 (a1 a2 a3 a4 a5 : Int32) : (lawStep 40 HM a1 a2 a3 a4 a5).isSome = true := by
  unfold lawStep
  rcases outR_or a1 2 (by decide) with h | ⟨j, hj, rfl⟩
  · exact ko_40 h
  · exact ki_40 j hj
set_option maxRecDepth 16384 in
theorem st_41 (a1 a2 a3 a4 a5 : Int32) : (lawStep 41 HM a1 a2 a3 a4 a5).isSome = true := by
  unfold lawStep
  rcases outR_or a1 5 (by decide) with h | ⟨j, hj, rfl⟩
  · exact ko_41 h
  rcases outR_or a2 2 (by decide) with h | ⟨i, hi, rfl⟩
  · exact kp_41 hj h
  · exact ki_41 j hj i hi
set_option maxRecDepth 16384 in
theorem st_42 (a1 a2 a3 a4 a5 : Int32) : (lawStep 42 HM a1 a2 a3 a4 a5).isSome = true := by
  unfold lawStep
  rcases outR_or a1 5 (by decide) with h | ⟨j, hj, rfl⟩
  · exact ko_42 h
  rcases outR_or a2 2 (by decide) with h | ⟨i, hi, rfl⟩
  · exact kp_42 hj h
  · exact ki_42 j hj i hi
set_option maxRecDepth 16384 in
theorem st_43 (a1 a2 a3 a4 a5 : Int32) : (lawStep 43 HM a1 a2 a3 a4 a5).isSome = true := by
  unfold lawStep
  rcases outR_or a1 5 (by decide) with h | ⟨j, hj, rfl⟩
  · exact ko_43 h
  rcases outR_or a2 2 (by decide) with h | ⟨i, hi, rfl⟩
  · exact kp_43 hj h
  · exact ki_43 j hj i hi
set_option maxRecDepth 16384 in
theorem st_44 (a1 a2 a3 a4 a5 : Int32) : (lawStep 44 HM a1 a2 a3 a4 a5).isSome = true := by
  unfold lawStep
  rcases outR_or a1 5 (by decide) with h | ⟨j, hj, rfl⟩
  · exact ko_44 h
  rcases outR_or a2 2 (by decide) with h | ⟨i, hi, rfl⟩
  · exact kp_44 hj h
  · exact ki_44 j hj i hi
set_option maxRecDepth 16384 in
theorem st_45 (a1 a2 a3 a4 a5 : Int32) : (lawStep 45 HM a1 a2 a3 a4 a5).isSome = true := by
  unfold lawStep
  rcases outR_or a1 2 (by decide) with h | ⟨j, hj, rfl⟩
  · exact ko_45 h
  · exact ki_45 j hj
set_option maxRecDepth 16384 in
theorem st_46 (a1 a2 a3 a4 a5 : Int32) : (lawStep 46 HM a1 a2 a3 a4 a5).isSome = true := by
  unfold lawStep
  rcases outR_or a1 2 (by decide) with h | ⟨j, hj, rfl⟩
  · exact ko_46 h
  · exact ki_46 j hj
set_option maxRecDepth 16384 in
theorem st_47 (a1 a2 a3 a4 a5 : Int32) : (lawStep 47 HM a1 a2 a3 a4 a5).isSome = true := by
  unfold lawStep
  rcases outR_or a1 2 (by decide) with h | ⟨j, hj, rfl⟩
  · exact ko_47 h
  · exact ki_47 j hj
set_option maxRecDepth 16384 in
theorem st_48 (a1 a2 a3 a4 a5 : Int32) : (lawStep 48 HM a1 a2 a3 a4 a5).isSome = true := by
  unfold lawStep
  rcases outR_or a1 5 (by decide) with h | ⟨j, hj, rfl⟩
  · exact ko_48 h
  · exact ki_48 j hj
set_option maxRecDepth 16384 in
theorem st_49 (a1 a2 a3 a4 a5 : Int32) : (lawStep 49 HM a1 a2 a3 a4 a5).isSome = true := by
  unfold lawStep
  rcases outR_or a1 5 (by decide) with h | ⟨j, hj, rfl⟩
  · exact ko_49 h
  rcases range_or a2 1 9999 (by decide) (by decide) with h | ⟨i, hi, rfl⟩
  · exact kp_49 hj h
  · exact ki_49 hj (by omega)
set_option maxRecDepth 16384 in
theorem st_50 (a1 a2 a3 a4 a5 : Int32) : (lawStep 50 HM a1 a2 a3 a4 a5).isSome = true := by
  unfold lawStep
  rcases range_or a1 1 9999 (by decide) (by decide) with h | ⟨i, hi, rfl⟩
  · exact ko_50 h
  · exact ki_50 (by omega)
set_option maxRecDepth 16384 in
theorem st_51 (a1 a2 a3 a4 a5 : Int32) : (lawStep 51 HM a1 a2 a3 a4 a5).isSome = true := by
  unfold lawStep
  rcases outR_or a1 2 (by decide) with h | ⟨j, hj, rfl⟩
  · exact ko_51 h
  rcases range_or a2 1 9999 (by decide) (by decide) with h | ⟨i, hi, rfl⟩
  · exact kp_51 hj h
  · exact ki_51 hj (by omega)
set_option maxRecDepth 16384 in
theorem st_52 (a1 a2 a3 a4 a5 : Int32) : (lawStep 52 HM a1 a2 a3 a4 a5).isSome = true := by
  unfold lawStep
  rcases outR_or a1 5 (by decide) with h | ⟨j, hj, rfl⟩
  · exact ko_52 h
  rcases range_or a2 1 9999 (by decide) (by decide) with h | ⟨i, hi, rfl⟩
  · exact kp_52 hj h
  · exact ki_52 hj (by omega)
set_option maxRecDepth 16384 in
theorem st_53 (a1 a2 a3 a4 a5 : Int32) : (lawStep 53 HM a1 a2 a3 a4 a5).isSome = true := by
  unfold lawStep
  rcases outR_or a1 5 (by decide) with h | ⟨j, hj, rfl⟩
  · exact ko_53 h
  · exact ki_53 j hj
set_option maxRecDepth 16384 in
theorem st_54 (a1 a2 a3 a4 a5 : Int32) : (lawStep 54 HM a1 a2 a3 a4 a5).isSome = true := by
  unfold lawStep
  exact kn_54
set_option maxRecDepth 16384 in
theorem st_55 (a1 a2 a3 a4 a5 : Int32) : (lawStep 55 HM a1 a2 a3 a4 a5).isSome = true := by
  unfold lawStep
  exact kn_55
set_option maxRecDepth 16384 in
theorem st_56 (a1 a2 a3 a4 a5 : Int32) : (lawStep 56 HM a1 a2 a3 a4 a5).isSome = true := by
  unfold lawStep
  exact kn_56
set_option maxRecDepth 16384 in
theorem st_57 (a1 a2 a3 a4 a5 : Int32) : (lawStep 57 HM a1 a2 a3 a4 a5).isSome = true := by
  unfold lawStep
  exact kn_57
set_option maxRecDepth 16384 in
theorem st_58 (a1 a2 a3 a4 a5 : Int32) : (lawStep 58 HM a1 a2 a3 a4 a5).isSome = true := by
  unfold lawStep
  exact kn_58
set_option maxRecDepth 16384 in
theorem st_59 (a1 a2 a3 a4 a5 : Int32) : (lawStep 59 HM a1 a2 a3 a4 a5).isSome = true := by
  unfold lawStep
  exact kn_59
set_option maxRecDepth 16384 in
theorem st_60 (a1 a2 a3 a4 a5 : Int32) : (lawStep 60 HM a1 a2 a3 a4 a5).isSome = true := by
  unfold lawStep
  rcases outR_or a1 2 (by decide) with h | ⟨j, hj, rfl⟩
  · exact ko_60 h
  · exact ki_60 j hj
set_option maxRecDepth 16384 in
theorem st_61 (a1 a2 a3 a4 a5 : Int32) : (lawStep 61 HM a1 a2 a3 a4 a5).isSome = true := by
  unfold lawStep
  exact ka_61 a1
set_option maxRecDepth 16384 in
theorem st_62 (a1 a2 a3 a4 a5 : Int32) : (lawStep 62 HM a1 a2 a3 a4 a5).isSome = true := rfl
set_option maxRecDepth 16384 in
theorem st_63 (a1 a2 a3 a4 a5 : Int32) : (lawStep 63 HM a1 a2 a3 a4 a5).isSome = true := rfl
set_option maxRecDepth 16384 in
theorem step_all (k : Nat) (hk : k < 64) (a1 a2 a3 a4 a5 : Int32) : (lawStep k HM a1 a2 a3 a4 a5).isSome = true := by
  match k, hk with
  | 0, _ => exact st_0 a1 a2 a3 a4 a5
  | 1, _ => exact st_1 a1 a2 a3 a4 a5
  | 2, _ => exact st_2 a1 a2 a3 a4 a5
  | 3, _ => exact st_3 a1 a2 a3 a4 a5
  | 4, _ => exact st_4 a1 a2 a3 a4 a5
  | 5, _ => exact st_5 a1 a2 a3 a4 a5
  | 6, _ => exact st_6 a1 a2 a3 a4 a5
  | 7, _ => exact st_7 a1 a2 a3 a4 a5
  | 8, _ => exact st_8 a1 a2 a3 a4 a5
  | 9, _ => exact st_9 a1 a2 a3 a4 a5
  | 10, _ => exact st_10 a1 a2 a3 a4 a5
  | 11, _ => exact st_11 a1 a2 a3 a4 a5
  | 12, _ => exact st_12 a1 a2 a3 a4 a5
  | 13, _ => exact st_13 a1 a2 a3 a4 a5
  | 14, _ => exact st_14 a1 a2 a3 a4 a5
  | 15, _ => exact st_15 a1 a2 a3 a4 a5
  | 16, _ => exact st_16 a1 a2 a3 a4 a5
  | 17, _ => exact st_17 a1 a2 a3 a4 a5
  | 18, _ => exact st_18 a1 a2 a3 a4 a5
  | 19, _ => exact st_19 a1 a2 a3 a4 a5
  | 20, _ => exact st_20 a1 a2 a3 a4 a5
  | 21, _ => exact st_21 a1 a2 a3 a4 a5
  | 22, _ => exact st_22 a1 a2 a3 a4 a5
  | 23, _ => exact st_23 a1 a2 a3 a4 a5
  | 24, _ => exact st_24 a1 a2 a3 a4 a5
  | 25, _ => exact st_25 a1 a2 a3 a4 a5
  | 26, _ => exact st_26 a1 a2 a3 a4 a5
  | 27, _ => exact st_27 a1 a2 a3 a4 a5
  | 28, _ => exact st_28 a1 a2 a3 a4 a5
  | 29, _ => exact st_29 a1 a2 a3 a4 a5
  | 30, _ => exact st_30 a1 a2 a3 a4 a5
  | 31, _ => exact st_31 a1 a2 a3 a4 a5
  | 32, _ => exact st_32 a1 a2 a3 a4 a5
  | 33, _ => exact st_33 a1 a2 a3 a4 a5
  | 34, _ => exact st_34 a1 a2 a3 a4 a5
  | 35, _ => exact st_35 a1 a2 a3 a4 a5
  | 36, _ => exact st_36 a1 a2 a3 a4 a5
  | 37, _ => exact st_37 a1 a2 a3 a4 a5
  | 38, _ => exact st_38 a1 a2 a3 a4 a5
  | 39, _ => exact st_39 a1 a2 a3 a4 a5
  | 40, _ => exact st_40 a1 a2 a3 a4 a5
  | 41, _ => exact st_41 a1 a2 a3 a4 a5
  | 42, _ => exact st_42 a1 a2 a3 a4 a5
  | 43, _ => exact st_43 a1 a2 a3 a4 a5
  | 44, _ => exact st_44 a1 a2 a3 a4 a5
  | 45, _ => exact st_45 a1 a2 a3 a4 a5
  | 46, _ => exact st_46 a1 a2 a3 a4 a5
  | 47, _ => exact st_47 a1 a2 a3 a4 a5
  | 48, _ => exact st_48 a1 a2 a3 a4 a5
  | 49, _ => exact st_49 a1 a2 a3 a4 a5
  | 50, _ => exact st_50 a1 a2 a3 a4 a5
  | 51, _ => exact st_51 a1 a2 a3 a4 a5
  | 52, _ => exact st_52 a1 a2 a3 a4 a5
  | 53, _ => exact st_53 a1 a2 a3 a4 a5
  | 54, _ => exact st_54 a1 a2 a3 a4 a5
  | 55, _ => exact st_55 a1 a2 a3 a4 a5
  | 56, _ => exact st_56 a1 a2 a3 a4 a5
  | 57, _ => exact st_57 a1 a2 a3 a4 a5
  | 58, _ => exact st_58 a1 a2 a3 a4 a5
  | 59, _ => exact st_59 a1 a2 a3 a4 a5
  | 60, _ => exact st_60 a1 a2 a3 a4 a5
  | 61, _ => exact st_61 a1 a2 a3 a4 a5
  | 62, _ => exact st_62 a1 a2 a3 a4 a5
  | 63, _ => exact st_63 a1 a2 a3 a4 a5
  | k + 64, hk => exact absurd hk (by omega)
