/-! every summary holds -/
theorem so_0 {l : Launch} : rj_sm l sm_0 := ok_sm nat_ok (fun _ h => absurd h List.not_mem_nil) oz_0
theorem so_1 {l : Launch} : rj_sm l sm_1 := ok_sm nat_ok (List.forall_mem_cons.mpr ⟨so_0, (fun _ h => absurd h List.not_mem_nil)⟩) oz_1
theorem so_2 {l : Launch} : rj_sm l sm_2 := ok_sm nat_ok (fun _ h => absurd h List.not_mem_nil) oz_2
theorem so_3 {l : Launch} : rj_sm l sm_3 := ok_sm nat_ok (fun _ h => absurd h List.not_mem_nil) oz_3
theorem so_4 {l : Launch} : rj_sm l sm_4 := ok_sm nat_ok (List.forall_mem_cons.mpr ⟨so_3, (fun _ h => absurd h List.not_mem_nil)⟩) oz_4
theorem so_5 {l : Launch} : rj_sm l sm_5 := by
  refine ok_smK (n := 3) nat_ok (List.forall_mem_cons.mpr ⟨so_3, (List.forall_mem_cons.mpr ⟨so_4, (fun _ h => absurd h List.not_mem_nil)⟩)⟩) on_5 (fun j hj => ?_)
  match j, hj with
  | 0, _ => exact oz_5_0
  | 1, _ => exact oz_5_1
  | 2, _ => exact oz_5_2
  | 3, _ => exact oz_5_3
  | n + 4, hj => exact absurd hj (by omega)
theorem so_6 {l : Launch} : rj_sm l sm_6 := ok_sm nat_ok (List.forall_mem_cons.mpr ⟨so_3, (fun _ h => absurd h List.not_mem_nil)⟩) oz_6
theorem so_7 {l : Launch} : rj_sm l sm_7 := ok_sm nat_ok (List.forall_mem_cons.mpr ⟨so_3, (fun _ h => absurd h List.not_mem_nil)⟩) oz_7
theorem so_8 {l : Launch} : rj_sm l sm_8 := ok_sm nat_ok (List.forall_mem_cons.mpr ⟨so_3, (List.forall_mem_cons.mpr ⟨so_6, (List.forall_mem_cons.mpr ⟨so_7, (fun _ h => absurd h List.not_mem_nil)⟩)⟩)⟩) oz_8
theorem so_9 {l : Launch} : rj_sm l sm_9 := ok_sm nat_ok (List.forall_mem_cons.mpr ⟨so_3, (fun _ h => absurd h List.not_mem_nil)⟩) oz_9
theorem so_10 {l : Launch} : rj_sm l sm_10 := ok_sm nat_ok (List.forall_mem_cons.mpr ⟨so_3, (fun _ h => absurd h List.not_mem_nil)⟩) oz_10
theorem so_11 {l : Launch} : rj_sm l sm_11 := ok_sm nat_ok (List.forall_mem_cons.mpr ⟨so_3, (fun _ h => absurd h List.not_mem_nil)⟩) oz_11
theorem so_12 {l : Launch} : rj_sm l sm_12 := ok_sm nat_ok (List.forall_mem_cons.mpr ⟨so_3, (fun _ h => absurd h List.not_mem_nil)⟩) oz_12
theorem so_13 {l : Launch} : rj_sm l sm_13 := ok_sm nat_ok (List.forall_mem_cons.mpr ⟨so_3, (List.forall_mem_cons.mpr ⟨so_9, (List.forall_mem_cons.mpr ⟨so_10, (List.forall_mem_cons.mpr ⟨so_11, (List.forall_mem_cons.mpr ⟨so_12, (fun _ h => absurd h List.not_mem_nil)⟩)⟩)⟩)⟩)⟩) oz_13
theorem so_14 {l : Launch} : rj_sm l sm_14 := ok_sm nat_ok (List.forall_mem_cons.mpr ⟨so_5, (List.forall_mem_cons.mpr ⟨so_3, (List.forall_mem_cons.mpr ⟨so_8, (List.forall_mem_cons.mpr ⟨so_13, (fun _ h => absurd h List.not_mem_nil)⟩)⟩)⟩)⟩) oz_14
theorem so_15 {l : Launch} : rj_sm l sm_15 := ok_sm nat_ok (List.forall_mem_cons.mpr ⟨so_3, (List.forall_mem_cons.mpr ⟨so_14, (fun _ h => absurd h List.not_mem_nil)⟩)⟩) oz_15
theorem so_16 {l : Launch} : rj_sm l sm_16 := ok_sm nat_ok (List.forall_mem_cons.mpr ⟨so_15, (fun _ h => absurd h List.not_mem_nil)⟩) oz_16
theorem so_17 {l : Launch} : rj_sm l sm_17 := ok_sm nat_ok (fun _ h => absurd h List.not_mem_nil) oz_17
theorem so_18 {l : Launch} : rj_sm l sm_18 := ok_sm nat_ok (fun _ h => absurd h List.not_mem_nil) oz_18
theorem so_19 {l : Launch} : rj_sm l sm_19 := ok_sm nat_ok (fun _ h => absurd h List.not_mem_nil) oz_19
theorem so_20 {l : Launch} : rj_sm l sm_20 := ok_sm nat_ok (fun _ h => absurd h List.not_mem_nil) oz_20
theorem so_21 {l : Launch} : rj_sm l sm_21 := ok_sm nat_ok (List.forall_mem_cons.mpr ⟨so_20, (fun _ h => absurd h List.not_mem_nil)⟩) oz_21
theorem so_22 {l : Launch} : rj_sm l sm_22 := ok_sm nat_ok (fun _ h => absurd h List.not_mem_nil) oz_22
theorem so_23 {l : Launch} : rj_sm l sm_23 := ok_sm nat_ok (fun _ h => absurd h List.not_mem_nil) oz_23
theorem so_24 {l : Launch} : rj_sm l sm_24 := ok_sm nat_ok (List.forall_mem_cons.mpr ⟨so_23, (fun _ h => absurd h List.not_mem_nil)⟩) oz_24
theorem so_25 {l : Launch} : rj_sm l sm_25 := ok_sm nat_ok (fun _ h => absurd h List.not_mem_nil) oz_25
theorem so_26 {l : Launch} : rj_sm l sm_26 := ok_sm nat_ok (List.forall_mem_cons.mpr ⟨so_24, (List.forall_mem_cons.mpr ⟨so_25, (fun _ h => absurd h List.not_mem_nil)⟩)⟩) oz_26
theorem so_27 {l : Launch} : rj_sm l sm_27 := ok_sm nat_ok (fun _ h => absurd h List.not_mem_nil) oz_27
theorem so_28 {l : Launch} : rj_sm l sm_28 := ok_sm nat_ok (List.forall_mem_cons.mpr ⟨so_27, (fun _ h => absurd h List.not_mem_nil)⟩) oz_28
theorem so_29 {l : Launch} : rj_sm l sm_29 := ok_sm nat_ok (fun _ h => absurd h List.not_mem_nil) oz_29
theorem so_30 {l : Launch} : rj_sm l sm_30 := ok_sm nat_ok (fun _ h => absurd h List.not_mem_nil) oz_30
theorem so_31 {l : Launch} : rj_sm l sm_31 := ok_sm nat_ok (List.forall_mem_cons.mpr ⟨so_22, (List.forall_mem_cons.mpr ⟨so_28, (List.forall_mem_cons.mpr ⟨so_30, (List.forall_mem_cons.mpr ⟨so_29, (List.forall_mem_cons.mpr ⟨so_26, (fun _ h => absurd h List.not_mem_nil)⟩)⟩)⟩)⟩)⟩) oz_31
theorem so_32 {l : Launch} : rj_sm l sm_32 := ok_sm nat_ok (List.forall_mem_cons.mpr ⟨so_21, (List.forall_mem_cons.mpr ⟨so_31, (fun _ h => absurd h List.not_mem_nil)⟩)⟩) oz_32
theorem so_33 {l : Launch} : rj_sm l sm_33 := ok_sm nat_ok (List.forall_mem_cons.mpr ⟨so_32, (fun _ h => absurd h List.not_mem_nil)⟩) oz_33
theorem so_34 {l : Launch} : rj_sm l sm_34 := ok_sm nat_ok (List.forall_mem_cons.mpr ⟨so_32, (fun _ h => absurd h List.not_mem_nil)⟩) oz_34
theorem so_35 {l : Launch} : rj_sm l sm_35 := ok_sm nat_ok (List.forall_mem_cons.mpr ⟨so_32, (fun _ h => absurd h List.not_mem_nil)⟩) oz_35
theorem so_36 {l : Launch} : rj_sm l sm_36 := ok_sm nat_ok (fun _ h => absurd h List.not_mem_nil) oz_36
theorem so_37 {l : Launch} : rj_sm l sm_37 := ok_sm nat_ok (List.forall_mem_cons.mpr ⟨so_32, (List.forall_mem_cons.mpr ⟨so_36, (fun _ h => absurd h List.not_mem_nil)⟩)⟩) oz_37
theorem so_38 {l : Launch} : rj_sm l sm_38 := ok_sm nat_ok (List.forall_mem_cons.mpr ⟨so_32, (fun _ h => absurd h List.not_mem_nil)⟩) oz_38
theorem so_39 {l : Launch} : rj_sm l sm_39 := ok_sm nat_ok (List.forall_mem_cons.mpr ⟨so_32, (fun _ h => absurd h List.not_mem_nil)⟩) oz_39
theorem so_40 {l : Launch} : rj_sm l sm_40 := ok_sm nat_ok (List.forall_mem_cons.mpr ⟨so_32, (fun _ h => absurd h List.not_mem_nil)⟩) oz_40
theorem so_41 {l : Launch} : rj_sm l sm_41 := ok_sm nat_ok (List.forall_mem_cons.mpr ⟨so_32, (List.forall_mem_cons.mpr ⟨so_30, (fun _ h => absurd h List.not_mem_nil)⟩)⟩) oz_41
theorem so_42 {l : Launch} : rj_sm l sm_42 := ok_sm nat_ok (List.forall_mem_cons.mpr ⟨so_32, (fun _ h => absurd h List.not_mem_nil)⟩) oz_42
theorem so_43 {l : Launch} : rj_sm l sm_43 := ok_sm nat_ok (fun _ h => absurd h List.not_mem_nil) oz_43
theorem so_44 {l : Launch} : rj_sm l sm_44 := ok_sm nat_ok (List.forall_mem_cons.mpr ⟨so_32, (List.forall_mem_cons.mpr ⟨so_43, (fun _ h => absurd h List.not_mem_nil)⟩)⟩) oz_44
theorem so_45 {l : Launch} : rj_sm l sm_45 := ok_sm nat_ok (List.forall_mem_cons.mpr ⟨so_32, (List.forall_mem_cons.mpr ⟨so_30, (fun _ h => absurd h List.not_mem_nil)⟩)⟩) oz_45
theorem so_46 {l : Launch} : rj_sm l sm_46 := ok_sm nat_ok (List.forall_mem_cons.mpr ⟨so_32, (fun _ h => absurd h List.not_mem_nil)⟩) oz_46
theorem so_47 {l : Launch} : rj_sm l sm_47 := ok_sm nat_ok (List.forall_mem_cons.mpr ⟨so_32, (List.forall_mem_cons.mpr ⟨so_30, (fun _ h => absurd h List.not_mem_nil)⟩)⟩) oz_47
theorem so_48 {l : Launch} : rj_sm l sm_48 := ok_sm nat_ok (List.forall_mem_cons.mpr ⟨so_30, (fun _ h => absurd h List.not_mem_nil)⟩) oz_48
theorem so_49 {l : Launch} : rj_sm l sm_49 := ok_sm nat_ok (List.forall_mem_cons.mpr ⟨so_32, (List.forall_mem_cons.mpr ⟨so_48, (fun _ h => absurd h List.not_mem_nil)⟩)⟩) oz_49
theorem so_50 {l : Launch} : rj_sm l sm_50 := ok_sm nat_ok (List.forall_mem_cons.mpr ⟨so_32, (fun _ h => absurd h List.not_mem_nil)⟩) oz_50
theorem so_51 {l : Launch} : rj_sm l sm_51 := ok_sm nat_ok (fun _ h => absurd h List.not_mem_nil) oz_51
theorem so_52 {l : Launch} : rj_sm l sm_52 := ok_sm nat_ok (List.forall_mem_cons.mpr ⟨so_32, (List.forall_mem_cons.mpr ⟨so_51, (fun _ h => absurd h List.not_mem_nil)⟩)⟩) oz_52
theorem so_53 {l : Launch} : rj_sm l sm_53 := ok_sm nat_ok (List.forall_mem_cons.mpr ⟨so_32, (fun _ h => absurd h List.not_mem_nil)⟩) oz_53
theorem so_54 {l : Launch} : rj_sm l sm_54 := ok_sm nat_ok (fun _ h => absurd h List.not_mem_nil) oz_54
theorem so_55 {l : Launch} : rj_sm l sm_55 := ok_sm nat_ok (List.forall_mem_cons.mpr ⟨so_32, (List.forall_mem_cons.mpr ⟨so_54, (fun _ h => absurd h List.not_mem_nil)⟩)⟩) oz_55
theorem so_56 {l : Launch} : rj_sm l sm_56 := ok_sm nat_ok (fun _ h => absurd h List.not_mem_nil) oz_56
theorem so_57 {l : Launch} : rj_sm l sm_57 := ok_sm nat_ok (List.forall_mem_cons.mpr ⟨so_32, (List.forall_mem_cons.mpr ⟨so_54, (List.forall_mem_cons.mpr ⟨so_56, (fun _ h => absurd h List.not_mem_nil)⟩)⟩)⟩) oz_57
theorem so_58 {l : Launch} : rj_sm l sm_58 := ok_sm nat_ok (List.forall_mem_cons.mpr ⟨so_32, (List.forall_mem_cons.mpr ⟨so_48, (fun _ h => absurd h List.not_mem_nil)⟩)⟩) oz_58
theorem so_59 {l : Launch} : rj_sm l sm_59 := ok_sm nat_ok (List.forall_mem_cons.mpr ⟨so_32, (List.forall_mem_cons.mpr ⟨so_30, (fun _ h => absurd h List.not_mem_nil)⟩)⟩) oz_59
theorem so_60 {l : Launch} : rj_sm l sm_60 := ok_sm nat_ok (List.forall_mem_cons.mpr ⟨so_32, (fun _ h => absurd h List.not_mem_nil)⟩) oz_60
theorem so_61 {l : Launch} : rj_sm l sm_61 := ok_sm nat_ok (List.forall_mem_cons.mpr ⟨so_32, (fun _ h => absurd h List.not_mem_nil)⟩) oz_61
theorem so_62 {l : Launch} : rj_sm l sm_62 := ok_sm nat_ok (List.forall_mem_cons.mpr ⟨so_32, (fun _ h => absurd h List.not_mem_nil)⟩) oz_62
theorem so_63 {l : Launch} : rj_sm l sm_63 := ok_sm nat_ok (List.forall_mem_cons.mpr ⟨so_32, (fun _ h => absurd h List.not_mem_nil)⟩) oz_63
theorem so_64 {l : Launch} : rj_sm l sm_64 := ok_sm nat_ok (List.forall_mem_cons.mpr ⟨so_32, (List.forall_mem_cons.mpr ⟨so_36, (fun _ h => absurd h List.not_mem_nil)⟩)⟩) oz_64
theorem so_65 {l : Launch} : rj_sm l sm_65 := ok_sm nat_ok (List.forall_mem_cons.mpr ⟨so_32, (fun _ h => absurd h List.not_mem_nil)⟩) oz_65
theorem so_66 {l : Launch} : rj_sm l sm_66 := ok_sm nat_ok (fun _ h => absurd h List.not_mem_nil) oz_66
theorem so_67 {l : Launch} : rj_sm l sm_67 := ok_sm nat_ok (List.forall_mem_cons.mpr ⟨so_32, (List.forall_mem_cons.mpr ⟨so_30, (List.forall_mem_cons.mpr ⟨so_66, (fun _ h => absurd h List.not_mem_nil)⟩)⟩)⟩) oz_67
theorem so_68 {l : Launch} : rj_sm l sm_68 := ok_sm nat_ok (fun _ h => absurd h List.not_mem_nil) oz_68
theorem so_69 {l : Launch} : rj_sm l sm_69 := ok_sm nat_ok (List.forall_mem_cons.mpr ⟨so_22, (List.forall_mem_cons.mpr ⟨so_26, (List.forall_mem_cons.mpr ⟨so_28, (List.forall_mem_cons.mpr ⟨so_29, (fun _ h => absurd h List.not_mem_nil)⟩)⟩)⟩)⟩) oz_69
theorem so_70 {l : Launch} : rj_sm l sm_70 := ok_sm nat_ok (List.forall_mem_cons.mpr ⟨so_68, (List.forall_mem_cons.mpr ⟨so_69, (fun _ h => absurd h List.not_mem_nil)⟩)⟩) oz_70
theorem so_71 {l : Launch} : rj_sm l sm_71 := ok_sm nat_ok (fun _ h => absurd h List.not_mem_nil) oz_71
theorem so_72 {l : Launch} : rj_sm l sm_72 := ok_sm nat_ok (fun _ h => absurd h List.not_mem_nil) oz_72
theorem so_73 {l : Launch} : rj_sm l sm_73 := by
  refine ok_smK (n := 6) nat_ok (fun _ h => absurd h List.not_mem_nil) on_73 (fun j hj => ?_)
  match j, hj with
  | 0, _ => exact oz_73_0
  | 1, _ => exact oz_73_1
  | 2, _ => exact oz_73_2
  | 3, _ => exact oz_73_3
  | 4, _ => exact oz_73_4
  | 5, _ => exact oz_73_5
  | 6, _ => exact oz_73_6
  | n + 7, hj => exact absurd hj (by omega)
theorem so_74 {l : Launch} : rj_sm l sm_74 := ok_sm nat_ok (List.forall_mem_cons.mpr ⟨so_71, (List.forall_mem_cons.mpr ⟨so_72, (List.forall_mem_cons.mpr ⟨so_51, (List.forall_mem_cons.mpr ⟨so_73, (fun _ h => absurd h List.not_mem_nil)⟩)⟩)⟩)⟩) oz_74
theorem so_75 {l : Launch} : rj_sm l sm_75 := ok_sm nat_ok (List.forall_mem_cons.mpr ⟨so_21, (List.forall_mem_cons.mpr ⟨so_70, (List.forall_mem_cons.mpr ⟨so_74, (fun _ h => absurd h List.not_mem_nil)⟩)⟩)⟩) oz_75
theorem so_76 {l : Launch} : rj_sm l sm_76 := ok_sm nat_ok (List.forall_mem_cons.mpr ⟨so_75, (fun _ h => absurd h List.not_mem_nil)⟩) oz_76
theorem so_77 {l : Launch} : rj_sm l sm_77 := ok_sm nat_ok (List.forall_mem_cons.mpr ⟨so_75, (fun _ h => absurd h List.not_mem_nil)⟩) oz_77
theorem so_78 {l : Launch} : rj_sm l sm_78 := ok_sm nat_ok (List.forall_mem_cons.mpr ⟨so_75, (fun _ h => absurd h List.not_mem_nil)⟩) oz_78
theorem so_79 {l : Launch} : rj_sm l sm_79 := ok_sm nat_ok (List.forall_mem_cons.mpr ⟨so_69, (List.forall_mem_cons.mpr ⟨so_51, (fun _ h => absurd h List.not_mem_nil)⟩)⟩) oz_79
theorem so_80 {l : Launch} : rj_sm l sm_80 := ok_sm nat_ok (List.forall_mem_cons.mpr ⟨so_21, (List.forall_mem_cons.mpr ⟨so_79, (fun _ h => absurd h List.not_mem_nil)⟩)⟩) oz_80
theorem so_81 {l : Launch} : rj_sm l sm_81 := ok_sm nat_ok (List.forall_mem_cons.mpr ⟨so_80, (fun _ h => absurd h List.not_mem_nil)⟩) oz_81
theorem so_82 {l : Launch} : rj_sm l sm_82 := ok_sm nat_ok (List.forall_mem_cons.mpr ⟨so_80, (fun _ h => absurd h List.not_mem_nil)⟩) oz_82
theorem so_83 {l : Launch} : rj_sm l sm_83 := ok_sm nat_ok (List.forall_mem_cons.mpr ⟨so_80, (fun _ h => absurd h List.not_mem_nil)⟩) oz_83
theorem so_84 {l : Launch} : rj_sm l sm_84 := ok_sm nat_ok (List.forall_mem_cons.mpr ⟨so_80, (fun _ h => absurd h List.not_mem_nil)⟩) oz_84
theorem so_85 {l : Launch} : rj_sm l sm_85 := ok_sm nat_ok (List.forall_mem_cons.mpr ⟨so_21, (List.forall_mem_cons.mpr ⟨so_20, (List.forall_mem_cons.mpr ⟨so_69, (List.forall_mem_cons.mpr ⟨so_51, (fun _ h => absurd h List.not_mem_nil)⟩)⟩)⟩)⟩) oz_85
theorem so_86 {l : Launch} : rj_sm l sm_86 := ok_sm nat_ok (List.forall_mem_cons.mpr ⟨so_32, (List.forall_mem_cons.mpr ⟨so_43, (List.forall_mem_cons.mpr ⟨so_21, (List.forall_mem_cons.mpr ⟨so_20, (List.forall_mem_cons.mpr ⟨so_69, (fun _ h => absurd h List.not_mem_nil)⟩)⟩)⟩)⟩)⟩) oz_86
theorem so_87 {l : Launch} : rj_sm l sm_87 := ok_sm nat_ok (List.forall_mem_cons.mpr ⟨so_32, (List.forall_mem_cons.mpr ⟨so_51, (List.forall_mem_cons.mpr ⟨so_21, (List.forall_mem_cons.mpr ⟨so_20, (List.forall_mem_cons.mpr ⟨so_69, (fun _ h => absurd h List.not_mem_nil)⟩)⟩)⟩)⟩)⟩) oz_87
theorem so_88 {l : Launch} : rj_sm l sm_88 := ok_sm nat_ok (fun _ h => absurd h List.not_mem_nil) oz_88
theorem so_89 {l : Launch} : rj_sm l sm_89 := ok_sm nat_ok (fun _ h => absurd h List.not_mem_nil) oz_89
theorem so_90 {l : Launch} : rj_sm l sm_90 := ok_sm nat_ok (List.forall_mem_cons.mpr ⟨so_80, (List.forall_mem_cons.mpr ⟨so_88, (List.forall_mem_cons.mpr ⟨so_89, (fun _ h => absurd h List.not_mem_nil)⟩)⟩)⟩) oz_90
theorem so_91 {l : Launch} : rj_sm l sm_91 := ok_sm nat_ok (fun _ h => absurd h List.not_mem_nil) oz_91
theorem so_92 {l : Launch} : rj_sm l sm_92 := ok_sm nat_ok (List.forall_mem_cons.mpr ⟨so_91, (fun _ h => absurd h List.not_mem_nil)⟩) oz_92
theorem so_93 {l : Launch} : rj_sm l sm_93 := ok_sm nat_ok (fun _ h => absurd h List.not_mem_nil) oz_93
theorem so_94 {l : Launch} : rj_sm l sm_94 := ok_sm nat_ok (List.forall_mem_cons.mpr ⟨so_93, (fun _ h => absurd h List.not_mem_nil)⟩) oz_94
theorem so_95 {l : Launch} : rj_sm l sm_95 := ok_sm nat_ok (fun _ h => absurd h List.not_mem_nil) oz_95
theorem so_96 {l : Launch} : rj_sm l sm_96 := ok_sm nat_ok (List.forall_mem_cons.mpr ⟨so_95, (fun _ h => absurd h List.not_mem_nil)⟩) oz_96
theorem so_97 {l : Launch} : rj_sm l sm_97 := ok_sm nat_ok (fun _ h => absurd h List.not_mem_nil) oz_97
theorem so_98 {l : Launch} : rj_sm l sm_98 := ok_sm nat_ok (List.forall_mem_cons.mpr ⟨so_97, (fun _ h => absurd h List.not_mem_nil)⟩) oz_98
theorem so_99 {l : Launch} : rj_sm l sm_99 := ok_sm nat_ok (List.forall_mem_cons.mpr ⟨so_80, (List.forall_mem_cons.mpr ⟨so_91, (List.forall_mem_cons.mpr ⟨so_92, (List.forall_mem_cons.mpr ⟨so_93, (List.forall_mem_cons.mpr ⟨so_94, (List.forall_mem_cons.mpr ⟨so_95, (List.forall_mem_cons.mpr ⟨so_96, (List.forall_mem_cons.mpr ⟨so_97, (List.forall_mem_cons.mpr ⟨so_98, (fun _ h => absurd h List.not_mem_nil)⟩)⟩)⟩)⟩)⟩)⟩)⟩)⟩)⟩) oz_99
theorem so_100 {l : Launch} : rj_sm l sm_100 := ok_sm nat_ok (List.forall_mem_cons.mpr ⟨so_80, (List.forall_mem_cons.mpr ⟨so_92, (List.forall_mem_cons.mpr ⟨so_94, (List.forall_mem_cons.mpr ⟨so_96, (List.forall_mem_cons.mpr ⟨so_98, (fun _ h => absurd h List.not_mem_nil)⟩)⟩)⟩)⟩)⟩) oz_100
theorem so_101 {l : Launch} : rj_sm l sm_101 := ok_sm nat_ok (fun _ h => absurd h List.not_mem_nil) oz_101
theorem so_102 {l : Launch} : rj_sm l sm_102 := ok_sm nat_ok (fun _ h => absurd h List.not_mem_nil) oz_102
theorem so_103 {l : Launch} : rj_sm l sm_103 := ok_sm nat_ok (List.forall_mem_cons.mpr ⟨so_22, (List.forall_mem_cons.mpr ⟨so_28, (List.forall_mem_cons.mpr ⟨so_102, (List.forall_mem_cons.mpr ⟨so_29, (List.forall_mem_cons.mpr ⟨so_26, (fun _ h => absurd h List.not_mem_nil)⟩)⟩)⟩)⟩)⟩) oz_103
theorem so_104 {l : Launch} : rj_sm l sm_104 := ok_sm nat_ok (fun _ h => absurd h List.not_mem_nil) oz_104
theorem so_105 {l : Launch} : rj_sm l sm_105 := ok_sm nat_ok (List.forall_mem_cons.mpr ⟨so_101, (List.forall_mem_cons.mpr ⟨so_21, (List.forall_mem_cons.mpr ⟨so_20, (List.forall_mem_cons.mpr ⟨so_103, (List.forall_mem_cons.mpr ⟨so_104, (fun _ h => absurd h List.not_mem_nil)⟩)⟩)⟩)⟩)⟩) oz_105
theorem so_106 {l : Launch} : rj_sm l sm_106 := ok_sm nat_ok (List.forall_mem_cons.mpr ⟨so_101, (List.forall_mem_cons.mpr ⟨so_21, (List.forall_mem_cons.mpr ⟨so_20, (List.forall_mem_cons.mpr ⟨so_103, (List.forall_mem_cons.mpr ⟨so_104, (fun _ h => absurd h List.not_mem_nil)⟩)⟩)⟩)⟩)⟩) oz_106
theorem so_107 {l : Launch} : rj_sm l sm_107 := ok_sm nat_ok (List.forall_mem_cons.mpr ⟨so_101, (List.forall_mem_cons.mpr ⟨so_21, (List.forall_mem_cons.mpr ⟨so_20, (List.forall_mem_cons.mpr ⟨so_103, (List.forall_mem_cons.mpr ⟨so_104, (fun _ h => absurd h List.not_mem_nil)⟩)⟩)⟩)⟩)⟩) oz_107
theorem so_108 {l : Launch} : rj_sm l sm_108 := ok_sm nat_ok (fun _ h => absurd h List.not_mem_nil) oz_108
theorem so_109 {l : Launch} : rj_sm l sm_109 := ok_sm nat_ok (List.forall_mem_cons.mpr ⟨so_108, (fun _ h => absurd h List.not_mem_nil)⟩) oz_109
theorem so_110 {l : Launch} : rj_sm l sm_110 := ok_sm nat_ok (List.forall_mem_cons.mpr ⟨so_101, (List.forall_mem_cons.mpr ⟨so_21, (List.forall_mem_cons.mpr ⟨so_20, (List.forall_mem_cons.mpr ⟨so_103, (List.forall_mem_cons.mpr ⟨so_104, (List.forall_mem_cons.mpr ⟨so_109, (fun _ h => absurd h List.not_mem_nil)⟩)⟩)⟩)⟩)⟩)⟩) oz_110
theorem so_111 {l : Launch} : rj_sm l sm_111 := ok_sm nat_ok (List.forall_mem_cons.mpr ⟨so_101, (List.forall_mem_cons.mpr ⟨so_21, (List.forall_mem_cons.mpr ⟨so_20, (List.forall_mem_cons.mpr ⟨so_103, (List.forall_mem_cons.mpr ⟨so_104, (List.forall_mem_cons.mpr ⟨so_109, (fun _ h => absurd h List.not_mem_nil)⟩)⟩)⟩)⟩)⟩)⟩) oz_111
theorem so_112 {l : Launch} : rj_sm l sm_112 := by
  refine ok_smT (ns := 0) (c := 2) (M := 2) (cut := (4, 0, 99999)) nat_ok (List.forall_mem_cons.mpr ⟨so_101, (List.forall_mem_cons.mpr ⟨so_21, (List.forall_mem_cons.mpr ⟨so_20, (List.forall_mem_cons.mpr ⟨so_103, (List.forall_mem_cons.mpr ⟨so_104, (List.forall_mem_cons.mpr ⟨so_89, (fun _ h => absurd h List.not_mem_nil)⟩)⟩)⟩)⟩)⟩)⟩) (by decide) (by decide) on_112 (fun k hk j hj => ?_)
  match k, hk with
  | 0, _ =>
    match j, hj with
    | 0, _ => exact ot_112_0_0
    | 1, _ => exact ot_112_0_1
    | n + 2, hj => exact absurd hj (by omega)
  | n + 1, hk => exact absurd hk (by omega)
theorem so_113 {l : Launch} : rj_sm l sm_113 := ok_sm nat_ok (List.forall_mem_cons.mpr ⟨so_21, (List.forall_mem_cons.mpr ⟨so_103, (fun _ h => absurd h List.not_mem_nil)⟩)⟩) oz_113
theorem so_114 {l : Launch} : rj_sm l sm_114 := ok_sm nat_ok (List.forall_mem_cons.mpr ⟨so_21, (List.forall_mem_cons.mpr ⟨so_69, (List.forall_mem_cons.mpr ⟨so_51, (fun _ h => absurd h List.not_mem_nil)⟩)⟩)⟩) oz_114
theorem so_115 {l : Launch} : rj_sm l sm_115 := ok_sm nat_ok (List.forall_mem_cons.mpr ⟨so_21, (List.forall_mem_cons.mpr ⟨so_69, (List.forall_mem_cons.mpr ⟨so_51, (fun _ h => absurd h List.not_mem_nil)⟩)⟩)⟩) oz_115
theorem so_116 {l : Launch} : rj_sm l sm_116 := ok_sm nat_ok (List.forall_mem_cons.mpr ⟨so_21, (List.forall_mem_cons.mpr ⟨so_69, (fun _ h => absurd h List.not_mem_nil)⟩)⟩) oz_116
theorem so_117 {l : Launch} : rj_sm l sm_117 := ok_sm nat_ok (List.forall_mem_cons.mpr ⟨so_116, (fun _ h => absurd h List.not_mem_nil)⟩) oz_117
theorem so_118 {l : Launch} : rj_sm l sm_118 := ok_sm nat_ok (List.forall_mem_cons.mpr ⟨so_116, (fun _ h => absurd h List.not_mem_nil)⟩) oz_118
theorem so_119 {l : Launch} : rj_sm l sm_119 := ok_sm nat_ok (List.forall_mem_cons.mpr ⟨so_80, (List.forall_mem_cons.mpr ⟨so_71, (List.forall_mem_cons.mpr ⟨so_89, (fun _ h => absurd h List.not_mem_nil)⟩)⟩)⟩) oz_119
theorem so_120 {l : Launch} : rj_sm l sm_120 := ok_sm nat_ok (List.forall_mem_cons.mpr ⟨so_80, (List.forall_mem_cons.mpr ⟨so_71, (List.forall_mem_cons.mpr ⟨so_89, (fun _ h => absurd h List.not_mem_nil)⟩)⟩)⟩) oz_120
theorem so_121 {l : Launch} : rj_sm l sm_121 := ok_sm nat_ok (List.forall_mem_cons.mpr ⟨so_80, (List.forall_mem_cons.mpr ⟨so_71, (List.forall_mem_cons.mpr ⟨so_89, (fun _ h => absurd h List.not_mem_nil)⟩)⟩)⟩) oz_121
theorem so_122 {l : Launch} : rj_sm l sm_122 := ok_sm nat_ok (fun _ h => absurd h List.not_mem_nil) oz_122
theorem so_123 {l : Launch} : rj_sm l sm_123 := ok_sm nat_ok (fun _ h => absurd h List.not_mem_nil) oz_123
theorem so_124 {l : Launch} : rj_sm l sm_124 := ok_sm nat_ok (fun _ h => absurd h List.not_mem_nil) oz_124
theorem so_125 {l : Launch} : rj_sm l sm_125 := ok_sm nat_ok (List.forall_mem_cons.mpr ⟨so_124, (fun _ h => absurd h List.not_mem_nil)⟩) oz_125
theorem so_126 {l : Launch} : rj_sm l sm_126 := ok_sm nat_ok (List.forall_mem_cons.mpr ⟨so_124, (fun _ h => absurd h List.not_mem_nil)⟩) oz_126
theorem so_127 {l : Launch} : rj_sm l sm_127 := ok_sm nat_ok (fun _ h => absurd h List.not_mem_nil) oz_127
theorem so_128 {l : Launch} : rj_sm l sm_128 := ok_sm nat_ok (List.forall_mem_cons.mpr ⟨so_127, (List.forall_mem_cons.mpr ⟨so_80, (fun _ h => absurd h List.not_mem_nil)⟩)⟩) oz_128
theorem so_129 {l : Launch} : rj_sm l sm_129 := ok_sm nat_ok (List.forall_mem_cons.mpr ⟨so_80, (List.forall_mem_cons.mpr ⟨so_127, (fun _ h => absurd h List.not_mem_nil)⟩)⟩) oz_129
theorem so_130 {l : Launch} : rj_sm l sm_130 := ok_sm nat_ok (fun _ h => absurd h List.not_mem_nil) oz_130
theorem so_131 {l : Launch} : rj_sm l sm_131 := ok_sm nat_ok (fun _ h => absurd h List.not_mem_nil) oz_131
theorem so_132 {l : Launch} : rj_sm l sm_132 := ok_sm nat_ok (List.forall_mem_cons.mpr ⟨so_131, (fun _ h => absurd h List.not_mem_nil)⟩) oz_132
theorem so_140 {l : Launch} : rj_sm l sm_140 := ok_sm nat_ok (fun _ h => absurd h List.not_mem_nil) oz_140
theorem so_143 {l : Launch} : rj_sm l sm_143 := ok_sm nat_ok (fun _ h => absurd h List.not_mem_nil) oz_143
theorem so_145 {l : Launch} : rj_sm l sm_145 := ok_sm nat_ok (fun _ h => absurd h List.not_mem_nil) oz_145
theorem so_146 {l : Launch} : rj_sm l sm_146 := ok_sm nat_ok (fun _ h => absurd h List.not_mem_nil) oz_146
theorem so_147 {l : Launch} : rj_sm l sm_147 := ok_sm nat_ok (fun _ h => absurd h List.not_mem_nil) oz_147
theorem so_148 {l : Launch} : rj_sm l sm_148 := ok_sm nat_ok (fun _ h => absurd h List.not_mem_nil) oz_148
theorem so_149 {l : Launch} : rj_sm l sm_149 := ok_sm nat_ok (fun _ h => absurd h List.not_mem_nil) oz_149
theorem so_150 {l : Launch} : rj_sm l sm_150 := ok_sm nat_ok (List.forall_mem_cons.mpr ⟨so_148, (fun _ h => absurd h List.not_mem_nil)⟩) oz_150
theorem so_151 {l : Launch} : rj_sm l sm_151 := ok_sm nat_ok (List.forall_mem_cons.mpr ⟨so_150, (List.forall_mem_cons.mpr ⟨so_148, (fun _ h => absurd h List.not_mem_nil)⟩)⟩) oz_151
theorem so_152 {l : Launch} : rj_sm l sm_152 := ok_sm nat_ok (List.forall_mem_cons.mpr ⟨so_150, (List.forall_mem_cons.mpr ⟨so_148, (fun _ h => absurd h List.not_mem_nil)⟩)⟩) oz_152
theorem so_153 {l : Launch} : rj_sm l sm_153 := ok_sm nat_ok (List.forall_mem_cons.mpr ⟨so_150, (List.forall_mem_cons.mpr ⟨so_148, (fun _ h => absurd h List.not_mem_nil)⟩)⟩) oz_153
theorem so_154 {l : Launch} : rj_sm l sm_154 := ok_sm nat_ok (List.forall_mem_cons.mpr ⟨so_150, (List.forall_mem_cons.mpr ⟨so_148, (fun _ h => absurd h List.not_mem_nil)⟩)⟩) oz_154
theorem so_155 {l : Launch} : rj_sm l sm_155 := ok_sm nat_ok (List.forall_mem_cons.mpr ⟨so_150, (List.forall_mem_cons.mpr ⟨so_148, (fun _ h => absurd h List.not_mem_nil)⟩)⟩) oz_155
theorem so_156 {l : Launch} : rj_sm l sm_156 := ok_sm nat_ok (List.forall_mem_cons.mpr ⟨so_150, (List.forall_mem_cons.mpr ⟨so_148, (fun _ h => absurd h List.not_mem_nil)⟩)⟩) oz_156
theorem so_157 {l : Launch} : rj_sm l sm_157 := ok_sm nat_ok (List.forall_mem_cons.mpr ⟨so_150, (List.forall_mem_cons.mpr ⟨so_148, (List.forall_mem_cons.mpr ⟨so_155, (List.forall_mem_cons.mpr ⟨so_156, (fun _ h => absurd h List.not_mem_nil)⟩)⟩)⟩)⟩) oz_157
theorem so_158 {l : Launch} : rj_sm l sm_158 := ok_sm nat_ok (List.forall_mem_cons.mpr ⟨so_150, (List.forall_mem_cons.mpr ⟨so_148, (fun _ h => absurd h List.not_mem_nil)⟩)⟩) oz_158
theorem so_159 {l : Launch} : rj_sm l sm_159 := by
  refine ok_smT (ns := 2) (c := 2) (M := 4) (cut := (31, 0, 99999)) nat_ok (List.forall_mem_cons.mpr ⟨so_150, (List.forall_mem_cons.mpr ⟨so_148, (List.forall_mem_cons.mpr ⟨so_158, (fun _ h => absurd h List.not_mem_nil)⟩)⟩)⟩) (by decide) (by decide) on_159 (fun k hk j hj => ?_)
  match k, hk with
  | 0, _ =>
    match j, hj with
    | 0, _ => exact ot_159_0_0
    | 1, _ => exact ot_159_0_1
    | 2, _ => exact ot_159_0_2
    | 3, _ => exact ot_159_0_3
    | n + 4, hj => exact absurd hj (by omega)
  | 1, _ =>
    match j, hj with
    | 0, _ => exact ot_159_1_0
    | 1, _ => exact ot_159_1_1
    | 2, _ => exact ot_159_1_2
    | 3, _ => exact ot_159_1_3
    | n + 4, hj => exact absurd hj (by omega)
  | 2, _ =>
    match j, hj with
    | 0, _ => exact ot_159_2_0
    | 1, _ => exact ot_159_2_1
    | 2, _ => exact ot_159_2_2
    | 3, _ => exact ot_159_2_3
    | n + 4, hj => exact absurd hj (by omega)
  | n + 3, hk => exact absurd hk (by omega)
theorem so_160 {l : Launch} : rj_sm l sm_160 := ok_sm nat_ok (List.forall_mem_cons.mpr ⟨so_148, (List.forall_mem_cons.mpr ⟨so_157, (List.forall_mem_cons.mpr ⟨so_159, (fun _ h => absurd h List.not_mem_nil)⟩)⟩)⟩) oz_160
theorem so_161 {l : Launch} : rj_sm l sm_161 := by
  refine ok_smL (ns := 0) (c := 1) (M := 6) (hh := 27) (cut := (112, 13, 129)) nat_ok (List.forall_mem_cons.mpr ⟨so_148, (List.forall_mem_cons.mpr ⟨so_149, (List.forall_mem_cons.mpr ⟨so_160, (List.forall_mem_cons.mpr ⟨so_150, (List.forall_mem_cons.mpr ⟨so_151, (List.forall_mem_cons.mpr ⟨so_152, (List.forall_mem_cons.mpr ⟨so_153, (List.forall_mem_cons.mpr ⟨so_154, (fun _ h => absurd h List.not_mem_nil)⟩)⟩)⟩)⟩)⟩)⟩)⟩)⟩) (by decide) on_161 (fun k hk j hj => ?_)
  match k, hk with
  | 0, _ =>
    match j, hj with
    | 0, _ => exact ol_161_0_0
    | 1, _ => exact ol_161_0_1
    | 2, _ => exact ol_161_0_2
    | 3, _ => exact ol_161_0_3
    | 4, _ => exact ol_161_0_4
    | 5, _ => exact ol_161_0_5
    | n + 6, hj => exact absurd hj (by omega)
  | n + 1, hk => exact absurd hk (by omega)
theorem so_162 {l : Launch} : rj_sm l sm_162 := ok_sm nat_ok (fun _ h => absurd h List.not_mem_nil) oz_162
theorem so_163 {l : Launch} : rj_sm l sm_163 := ok_sm nat_ok (fun _ h => absurd h List.not_mem_nil) oz_163
theorem so_164 {l : Launch} : rj_sm l sm_164 := ok_sm nat_ok (List.forall_mem_cons.mpr ⟨so_163, (fun _ h => absurd h List.not_mem_nil)⟩) oz_164
theorem so_165 {l : Launch} : rj_sm l sm_165 := ok_sm nat_ok (fun _ h => absurd h List.not_mem_nil) oz_165
theorem so_166 {l : Launch} : rj_sm l sm_166 := ok_sm nat_ok (fun _ h => absurd h List.not_mem_nil) oz_166
theorem so_167 {l : Launch} : rj_sm l sm_167 := ok_sm nat_ok (fun _ h => absurd h List.not_mem_nil) oz_167
theorem so_168 {l : Launch} : rj_sm l sm_168 := ok_sm nat_ok (List.forall_mem_cons.mpr ⟨so_166, (List.forall_mem_cons.mpr ⟨so_167, (List.forall_mem_cons.mpr ⟨so_165, (fun _ h => absurd h List.not_mem_nil)⟩)⟩)⟩) oz_168
theorem so_169 {l : Launch} : rj_sm l sm_169 := ok_sm nat_ok (List.forall_mem_cons.mpr ⟨so_166, (List.forall_mem_cons.mpr ⟨so_165, (List.forall_mem_cons.mpr ⟨so_167, (fun _ h => absurd h List.not_mem_nil)⟩)⟩)⟩) oz_169
theorem so_170 {l : Launch} : rj_sm l sm_170 := by
  refine ok_smT (ns := 0) (c := 10) (M := 4) (cut := (262, 0, 99999)) nat_ok (List.forall_mem_cons.mpr ⟨so_168, (List.forall_mem_cons.mpr ⟨so_166, (List.forall_mem_cons.mpr ⟨so_169, (fun _ h => absurd h List.not_mem_nil)⟩)⟩)⟩) (by decide) (by decide) on_170 (fun k hk j hj => ?_)
  match k, hk with
  | 0, _ =>
    match j, hj with
    | 0, _ => exact ot_170_0_0
    | 1, _ => exact ot_170_0_1
    | 2, _ => exact ot_170_0_2
    | 3, _ => exact ot_170_0_3
    | n + 4, hj => exact absurd hj (by omega)
  | n + 1, hk => exact absurd hk (by omega)
theorem so_171 {l : Launch} : rj_sm l sm_171 := ok_sm nat_ok (List.forall_mem_cons.mpr ⟨so_165, (List.forall_mem_cons.mpr ⟨so_170, (fun _ h => absurd h List.not_mem_nil)⟩)⟩) oz_171
theorem so_172 {l : Launch} : rj_sm l sm_172 := ok_sm nat_ok (List.forall_mem_cons.mpr ⟨so_163, (List.forall_mem_cons.mpr ⟨so_171, (fun _ h => absurd h List.not_mem_nil)⟩)⟩) oz_172
theorem so_173 {l : Launch} : rj_sm l sm_173 := ok_sm nat_ok (List.forall_mem_cons.mpr ⟨so_172, (fun _ h => absurd h List.not_mem_nil)⟩) oz_173
theorem so_174 {l : Launch} : rj_sm l sm_174 := ok_sm nat_ok (List.forall_mem_cons.mpr ⟨so_172, (fun _ h => absurd h List.not_mem_nil)⟩) oz_174
theorem so_175 {l : Launch} : rj_sm l sm_175 := ok_sm nat_ok (List.forall_mem_cons.mpr ⟨so_172, (fun _ h => absurd h List.not_mem_nil)⟩) oz_175
theorem so_176 {l : Launch} : rj_sm l sm_176 := ok_sm nat_ok (fun _ h => absurd h List.not_mem_nil) oz_176
theorem so_177 {l : Launch} : rj_sm l sm_177 := ok_sm nat_ok (List.forall_mem_cons.mpr ⟨so_172, (List.forall_mem_cons.mpr ⟨so_176, (fun _ h => absurd h List.not_mem_nil)⟩)⟩) oz_177
theorem so_178 {l : Launch} : rj_sm l sm_178 := ok_sm nat_ok (List.forall_mem_cons.mpr ⟨so_172, (fun _ h => absurd h List.not_mem_nil)⟩) oz_178
theorem so_179 {l : Launch} : rj_sm l sm_179 := ok_sm nat_ok (List.forall_mem_cons.mpr ⟨so_172, (fun _ h => absurd h List.not_mem_nil)⟩) oz_179
theorem so_180 {l : Launch} : rj_sm l sm_180 := ok_sm nat_ok (List.forall_mem_cons.mpr ⟨so_172, (List.forall_mem_cons.mpr ⟨so_167, (fun _ h => absurd h List.not_mem_nil)⟩)⟩) oz_180
theorem so_181 {l : Launch} : rj_sm l sm_181 := ok_sm nat_ok (List.forall_mem_cons.mpr ⟨so_172, (fun _ h => absurd h List.not_mem_nil)⟩) oz_181
theorem so_182 {l : Launch} : rj_sm l sm_182 := ok_sm nat_ok (List.forall_mem_cons.mpr ⟨so_172, (fun _ h => absurd h List.not_mem_nil)⟩) oz_182
theorem so_183 {l : Launch} : rj_sm l sm_183 := ok_sm nat_ok (fun _ h => absurd h List.not_mem_nil) oz_183
theorem so_184 {l : Launch} : rj_sm l sm_184 := ok_sm nat_ok (List.forall_mem_cons.mpr ⟨so_172, (List.forall_mem_cons.mpr ⟨so_183, (fun _ h => absurd h List.not_mem_nil)⟩)⟩) oz_184
theorem so_185 {l : Launch} : rj_sm l sm_185 := ok_sm nat_ok (List.forall_mem_cons.mpr ⟨so_172, (fun _ h => absurd h List.not_mem_nil)⟩) oz_185
theorem so_186 {l : Launch} : rj_sm l sm_186 := ok_sm nat_ok (List.forall_mem_cons.mpr ⟨so_172, (fun _ h => absurd h List.not_mem_nil)⟩) oz_186
theorem so_187 {l : Launch} : rj_sm l sm_187 := ok_sm nat_ok (List.forall_mem_cons.mpr ⟨so_172, (fun _ h => absurd h List.not_mem_nil)⟩) oz_187
theorem so_188 {l : Launch} : rj_sm l sm_188 := ok_sm nat_ok (fun _ h => absurd h List.not_mem_nil) oz_188
theorem so_189 {l : Launch} : rj_sm l sm_189 := ok_sm nat_ok (List.forall_mem_cons.mpr ⟨so_172, (List.forall_mem_cons.mpr ⟨so_188, (fun _ h => absurd h List.not_mem_nil)⟩)⟩) oz_189
theorem so_190 {l : Launch} : rj_sm l sm_190 := ok_sm nat_ok (List.forall_mem_cons.mpr ⟨so_172, (fun _ h => absurd h List.not_mem_nil)⟩) oz_190
theorem so_191 {l : Launch} : rj_sm l sm_191 := ok_sm nat_ok (fun _ h => absurd h List.not_mem_nil) oz_191
theorem so_192 {l : Launch} : rj_sm l sm_192 := ok_sm nat_ok (List.forall_mem_cons.mpr ⟨so_172, (List.forall_mem_cons.mpr ⟨so_191, (fun _ h => absurd h List.not_mem_nil)⟩)⟩) oz_192
theorem so_193 {l : Launch} : rj_sm l sm_193 := ok_sm nat_ok (List.forall_mem_cons.mpr ⟨so_172, (fun _ h => absurd h List.not_mem_nil)⟩) oz_193
theorem so_194 {l : Launch} : rj_sm l sm_194 := ok_sm nat_ok (List.forall_mem_cons.mpr ⟨so_172, (fun _ h => absurd h List.not_mem_nil)⟩) oz_194
theorem so_195 {l : Launch} : rj_sm l sm_195 := ok_sm nat_ok (List.forall_mem_cons.mpr ⟨so_194, (fun _ h => absurd h List.not_mem_nil)⟩) oz_195
theorem so_196 {l : Launch} : rj_sm l sm_196 := ok_sm nat_ok (List.forall_mem_cons.mpr ⟨so_194, (fun _ h => absurd h List.not_mem_nil)⟩) oz_196
theorem so_197 {l : Launch} : rj_sm l sm_197 := ok_sm nat_ok (List.forall_mem_cons.mpr ⟨so_172, (List.forall_mem_cons.mpr ⟨so_188, (List.forall_mem_cons.mpr ⟨so_167, (fun _ h => absurd h List.not_mem_nil)⟩)⟩)⟩) oz_197
theorem so_198 {l : Launch} : rj_sm l sm_198 := ok_sm nat_ok (List.forall_mem_cons.mpr ⟨so_172, (fun _ h => absurd h List.not_mem_nil)⟩) oz_198
theorem so_199 {l : Launch} : rj_sm l sm_199 := ok_sm nat_ok (List.forall_mem_cons.mpr ⟨so_172, (fun _ h => absurd h List.not_mem_nil)⟩) oz_199
theorem so_200 {l : Launch} : rj_sm l sm_200 := ok_sm nat_ok (List.forall_mem_cons.mpr ⟨so_172, (fun _ h => absurd h List.not_mem_nil)⟩) oz_200
theorem so_201 {l : Launch} : rj_sm l sm_201 := ok_sm nat_ok (List.forall_mem_cons.mpr ⟨so_172, (fun _ h => absurd h List.not_mem_nil)⟩) oz_201
theorem so_202 {l : Launch} : rj_sm l sm_202 := ok_sm nat_ok (List.forall_mem_cons.mpr ⟨so_172, (fun _ h => absurd h List.not_mem_nil)⟩) oz_202
theorem so_203 {l : Launch} : rj_sm l sm_203 := ok_sm nat_ok (List.forall_mem_cons.mpr ⟨so_172, (fun _ h => absurd h List.not_mem_nil)⟩) oz_203
theorem so_204 {l : Launch} : rj_sm l sm_204 := ok_sm nat_ok (List.forall_mem_cons.mpr ⟨so_172, (fun _ h => absurd h List.not_mem_nil)⟩) oz_204
theorem so_205 {l : Launch} : rj_sm l sm_205 := ok_sm nat_ok (fun _ h => absurd h List.not_mem_nil) oz_205
theorem so_206 {l : Launch} : rj_sm l sm_206 := ok_sm nat_ok (List.forall_mem_cons.mpr ⟨so_172, (List.forall_mem_cons.mpr ⟨so_205, (fun _ h => absurd h List.not_mem_nil)⟩)⟩) oz_206
theorem so_207 {l : Launch} : rj_sm l sm_207 := ok_sm nat_ok (List.forall_mem_cons.mpr ⟨so_171, (List.forall_mem_cons.mpr ⟨so_191, (fun _ h => absurd h List.not_mem_nil)⟩)⟩) oz_207
theorem so_208 {l : Launch} : rj_sm l sm_208 := ok_sm nat_ok (List.forall_mem_cons.mpr ⟨so_207, (List.forall_mem_cons.mpr ⟨so_171, (List.forall_mem_cons.mpr ⟨so_191, (fun _ h => absurd h List.not_mem_nil)⟩)⟩)⟩) oz_208
theorem so_209 {l : Launch} : rj_sm l sm_209 := ok_sm nat_ok (List.forall_mem_cons.mpr ⟨so_208, (List.forall_mem_cons.mpr ⟨so_171, (List.forall_mem_cons.mpr ⟨so_191, (fun _ h => absurd h List.not_mem_nil)⟩)⟩)⟩) oz_209
theorem so_210 {l : Launch} : rj_sm l sm_210 := ok_sm nat_ok (List.forall_mem_cons.mpr ⟨so_209, (List.forall_mem_cons.mpr ⟨so_171, (List.forall_mem_cons.mpr ⟨so_191, (fun _ h => absurd h List.not_mem_nil)⟩)⟩)⟩) oz_210
theorem so_211 {l : Launch} : rj_sm l sm_211 := ok_sm nat_ok (List.forall_mem_cons.mpr ⟨so_210, (List.forall_mem_cons.mpr ⟨so_171, (List.forall_mem_cons.mpr ⟨so_191, (fun _ h => absurd h List.not_mem_nil)⟩)⟩)⟩) oz_211
theorem so_212 {l : Launch} : rj_sm l sm_212 := ok_sm nat_ok (List.forall_mem_cons.mpr ⟨so_211, (List.forall_mem_cons.mpr ⟨so_171, (List.forall_mem_cons.mpr ⟨so_191, (fun _ h => absurd h List.not_mem_nil)⟩)⟩)⟩) oz_212
theorem so_213 {l : Launch} : rj_sm l sm_213 := ok_sm nat_ok (List.forall_mem_cons.mpr ⟨so_212, (List.forall_mem_cons.mpr ⟨so_171, (List.forall_mem_cons.mpr ⟨so_191, (fun _ h => absurd h List.not_mem_nil)⟩)⟩)⟩) oz_213
theorem so_214 {l : Launch} : rj_sm l sm_214 := ok_sm nat_ok (List.forall_mem_cons.mpr ⟨so_163, (List.forall_mem_cons.mpr ⟨so_213, (fun _ h => absurd h List.not_mem_nil)⟩)⟩) oz_214
theorem so_215 {l : Launch} : rj_sm l sm_215 := ok_sm nat_ok (List.forall_mem_cons.mpr ⟨so_163, (List.forall_mem_cons.mpr ⟨so_213, (fun _ h => absurd h List.not_mem_nil)⟩)⟩) oz_215
theorem so_216 {l : Launch} : rj_sm l sm_216 := ok_sm nat_ok (List.forall_mem_cons.mpr ⟨so_163, (List.forall_mem_cons.mpr ⟨so_213, (fun _ h => absurd h List.not_mem_nil)⟩)⟩) oz_216
theorem so_217 {l : Launch} : rj_sm l sm_217 := ok_sm nat_ok (List.forall_mem_cons.mpr ⟨so_163, (List.forall_mem_cons.mpr ⟨so_171, (List.forall_mem_cons.mpr ⟨so_191, (fun _ h => absurd h List.not_mem_nil)⟩)⟩)⟩) oz_217
theorem so_218 {l : Launch} : rj_sm l sm_218 := ok_sm nat_ok (List.forall_mem_cons.mpr ⟨so_217, (List.forall_mem_cons.mpr ⟨so_167, (fun _ h => absurd h List.not_mem_nil)⟩)⟩) oz_218
theorem so_219 {l : Launch} : rj_sm l sm_219 := ok_sm nat_ok (List.forall_mem_cons.mpr ⟨so_217, (fun _ h => absurd h List.not_mem_nil)⟩) oz_219
theorem so_220 {l : Launch} : rj_sm l sm_220 := ok_sm nat_ok (List.forall_mem_cons.mpr ⟨so_219, (fun _ h => absurd h List.not_mem_nil)⟩) oz_220
theorem so_221 {l : Launch} : rj_sm l sm_221 := ok_sm nat_ok (List.forall_mem_cons.mpr ⟨so_219, (List.forall_mem_cons.mpr ⟨so_217, (List.forall_mem_cons.mpr ⟨so_165, (fun _ h => absurd h List.not_mem_nil)⟩)⟩)⟩) oz_221
theorem so_222 {l : Launch} : rj_sm l sm_222 := ok_sm nat_ok (List.forall_mem_cons.mpr ⟨so_217, (fun _ h => absurd h List.not_mem_nil)⟩) oz_222
theorem so_223 {l : Launch} : rj_sm l sm_223 := ok_sm nat_ok (List.forall_mem_cons.mpr ⟨so_163, (List.forall_mem_cons.mpr ⟨so_171, (List.forall_mem_cons.mpr ⟨so_191, (fun _ h => absurd h List.not_mem_nil)⟩)⟩)⟩) oz_223
theorem so_224 {l : Launch} : rj_sm l sm_224 := ok_sm nat_ok (List.forall_mem_cons.mpr ⟨so_172, (List.forall_mem_cons.mpr ⟨so_183, (List.forall_mem_cons.mpr ⟨so_163, (List.forall_mem_cons.mpr ⟨so_171, (fun _ h => absurd h List.not_mem_nil)⟩)⟩)⟩)⟩) oz_224
theorem so_225 {l : Launch} : rj_sm l sm_225 := ok_sm nat_ok (List.forall_mem_cons.mpr ⟨so_172, (List.forall_mem_cons.mpr ⟨so_191, (List.forall_mem_cons.mpr ⟨so_163, (List.forall_mem_cons.mpr ⟨so_171, (fun _ h => absurd h List.not_mem_nil)⟩)⟩)⟩)⟩) oz_225
theorem so_226 {l : Launch} : rj_sm l sm_226 := sm_cm
theorem so_227 {l : Launch} : rj_sm l sm_227 := ok_sm nat_ok (List.forall_mem_cons.mpr ⟨so_165, (List.forall_mem_cons.mpr ⟨so_167, (List.forall_mem_cons.mpr ⟨so_217, (List.forall_mem_cons.mpr ⟨so_226, (List.forall_mem_cons.mpr ⟨so_tn, List.forall_mem_cons.mpr ⟨so_tm, (fun _ h => absurd h List.not_mem_nil)⟩⟩)⟩)⟩)⟩)⟩) oz_227
theorem so_228 {l : Launch} : rj_sm l sm_228 := ok_sm nat_ok (List.forall_mem_cons.mpr ⟨so_165, (fun _ h => absurd h List.not_mem_nil)⟩) oz_228
theorem so_229 {l : Launch} : rj_sm l sm_229 := ok_sm nat_ok (List.forall_mem_cons.mpr ⟨so_217, (List.forall_mem_cons.mpr ⟨so_228, (fun _ h => absurd h List.not_mem_nil)⟩)⟩) oz_229
theorem so_230 {l : Launch} : rj_sm l sm_230 := ok_sm nat_ok (List.forall_mem_cons.mpr ⟨so_229, (List.forall_mem_cons.mpr ⟨so_217, (List.forall_mem_cons.mpr ⟨so_228, (fun _ h => absurd h List.not_mem_nil)⟩)⟩)⟩) oz_230
theorem so_231 {l : Launch} : rj_sm l sm_231 := ok_sm nat_ok (List.forall_mem_cons.mpr ⟨so_229, (fun _ h => absurd h List.not_mem_nil)⟩) oz_231
theorem so_232 {l : Launch} : rj_sm l sm_232 := ok_sm nat_ok (List.forall_mem_cons.mpr ⟨so_163, (List.forall_mem_cons.mpr ⟨so_171, (List.forall_mem_cons.mpr ⟨so_183, (fun _ h => absurd h List.not_mem_nil)⟩)⟩)⟩) oz_232
theorem so_233 {l : Launch} : rj_sm l sm_233 := ok_sm nat_ok (List.forall_mem_cons.mpr ⟨so_163, (List.forall_mem_cons.mpr ⟨so_171, (List.forall_mem_cons.mpr ⟨so_183, (fun _ h => absurd h List.not_mem_nil)⟩)⟩)⟩) oz_233
theorem so_234 {l : Launch} : rj_sm l sm_234 := ok_sm nat_ok (List.forall_mem_cons.mpr ⟨so_163, (List.forall_mem_cons.mpr ⟨so_171, (List.forall_mem_cons.mpr ⟨so_183, (fun _ h => absurd h List.not_mem_nil)⟩)⟩)⟩) oz_234
theorem so_235 {l : Launch} : rj_sm l sm_235 := ok_sm nat_ok (List.forall_mem_cons.mpr ⟨so_163, (List.forall_mem_cons.mpr ⟨so_171, (List.forall_mem_cons.mpr ⟨so_183, (fun _ h => absurd h List.not_mem_nil)⟩)⟩)⟩) oz_235
theorem so_236 {l : Launch} : rj_sm l sm_236 := ok_sm nat_ok (List.forall_mem_cons.mpr ⟨so_163, (List.forall_mem_cons.mpr ⟨so_171, (List.forall_mem_cons.mpr ⟨so_183, (fun _ h => absurd h List.not_mem_nil)⟩)⟩)⟩) oz_236
theorem so_237 {l : Launch} : rj_sm l sm_237 := ok_sm nat_ok (List.forall_mem_cons.mpr ⟨so_163, (List.forall_mem_cons.mpr ⟨so_171, (List.forall_mem_cons.mpr ⟨so_183, (List.forall_mem_cons.mpr ⟨so_226, (fun _ h => absurd h List.not_mem_nil)⟩)⟩)⟩)⟩) oz_237
theorem so_238 {l : Launch} : rj_sm l sm_238 := ok_sm nat_ok (List.forall_mem_cons.mpr ⟨so_163, (List.forall_mem_cons.mpr ⟨so_171, (List.forall_mem_cons.mpr ⟨so_191, (fun _ h => absurd h List.not_mem_nil)⟩)⟩)⟩) oz_238
theorem so_239 {l : Launch} : rj_sm l sm_239 := ok_sm nat_ok (List.forall_mem_cons.mpr ⟨so_163, (List.forall_mem_cons.mpr ⟨so_171, (List.forall_mem_cons.mpr ⟨so_191, (fun _ h => absurd h List.not_mem_nil)⟩)⟩)⟩) oz_239
theorem so_240 {l : Launch} : rj_sm l sm_240 := ok_sm nat_ok (List.forall_mem_cons.mpr ⟨so_163, (List.forall_mem_cons.mpr ⟨so_171, (List.forall_mem_cons.mpr ⟨so_191, (fun _ h => absurd h List.not_mem_nil)⟩)⟩)⟩) oz_240
theorem so_241 {l : Launch} : rj_sm l sm_241 := ok_sm nat_ok (List.forall_mem_cons.mpr ⟨so_163, (List.forall_mem_cons.mpr ⟨so_171, (List.forall_mem_cons.mpr ⟨so_165, (List.forall_mem_cons.mpr ⟨so_183, (fun _ h => absurd h List.not_mem_nil)⟩)⟩)⟩)⟩) oz_241
theorem so_242 {l : Launch} : rj_sm l sm_242 := ok_sm nat_ok (List.forall_mem_cons.mpr ⟨so_241, (fun _ h => absurd h List.not_mem_nil)⟩) oz_242
theorem so_243 {l : Launch} : rj_sm l sm_243 := ok_sm nat_ok (List.forall_mem_cons.mpr ⟨so_241, (fun _ h => absurd h List.not_mem_nil)⟩) oz_243
theorem so_244 {l : Launch} : rj_sm l sm_244 := ok_sm nat_ok (List.forall_mem_cons.mpr ⟨so_163, (List.forall_mem_cons.mpr ⟨so_165, (List.forall_mem_cons.mpr ⟨so_171, (List.forall_mem_cons.mpr ⟨so_191, (fun _ h => absurd h List.not_mem_nil)⟩)⟩)⟩)⟩) oz_244
theorem so_245 {l : Launch} : rj_sm l sm_245 := ok_sm nat_ok (List.forall_mem_cons.mpr ⟨so_244, (List.forall_mem_cons.mpr ⟨so_226, (fun _ h => absurd h List.not_mem_nil)⟩)⟩) oz_245
theorem so_246 {l : Launch} : rj_sm l sm_246 := ok_sm nat_ok (List.forall_mem_cons.mpr ⟨so_244, (List.forall_mem_cons.mpr ⟨so_226, (fun _ h => absurd h List.not_mem_nil)⟩)⟩) oz_246
theorem so_247 {l : Launch} : rj_sm l sm_247 := ok_sm nat_ok (List.forall_mem_cons.mpr ⟨so_244, (List.forall_mem_cons.mpr ⟨so_226, (fun _ h => absurd h List.not_mem_nil)⟩)⟩) oz_247
theorem so_248 {l : Launch} : rj_sm l sm_248 := ok_sm nat_ok (List.forall_mem_cons.mpr ⟨so_163, (List.forall_mem_cons.mpr ⟨so_171, (fun _ h => absurd h List.not_mem_nil)⟩)⟩) oz_248
theorem so_249 {l : Launch} : rj_sm l sm_249 := ok_sm nat_ok (List.forall_mem_cons.mpr ⟨so_248, (List.forall_mem_cons.mpr ⟨so_191, (fun _ h => absurd h List.not_mem_nil)⟩)⟩) oz_249
theorem so_250 {l : Launch} : rj_sm l sm_250 := ok_sm nat_ok (List.forall_mem_cons.mpr ⟨so_248, (fun _ h => absurd h List.not_mem_nil)⟩) oz_250
theorem so_251 {l : Launch} : rj_sm l sm_251 := ok_sm nat_ok (List.forall_mem_cons.mpr ⟨so_163, (List.forall_mem_cons.mpr ⟨so_165, (fun _ h => absurd h List.not_mem_nil)⟩)⟩) oz_251
theorem so_252 {l : Launch} : rj_sm l sm_252 := ok_sm nat_ok (List.forall_mem_cons.mpr ⟨so_163, (fun _ h => absurd h List.not_mem_nil)⟩) oz_252
theorem so_253 {l : Launch} : rj_sm l sm_253 := ok_sm nat_ok (fun _ h => absurd h List.not_mem_nil) oz_253
theorem so_254 {l : Launch} : rj_sm l sm_254 := ok_sm nat_ok (fun _ h => absurd h List.not_mem_nil) oz_254
theorem so_255 {l : Launch} : rj_sm l sm_255 := ok_sm nat_ok (fun _ h => absurd h List.not_mem_nil) oz_255
theorem so_256 {l : Launch} : rj_sm l sm_256 := ok_sm nat_ok (fun _ h => absurd h List.not_mem_nil) oz_256
theorem so_257 {l : Launch} : rj_sm l sm_257 := ok_sm nat_ok (fun _ h => absurd h List.not_mem_nil) oz_257
theorem so_258 {l : Launch} : rj_sm l sm_258 := ok_sm nat_ok (fun _ h => absurd h List.not_mem_nil) oz_258
theorem so_259 {l : Launch} : rj_sm l sm_259 := ok_sm nat_ok (fun _ h => absurd h List.not_mem_nil) oz_259
theorem so_261 {l : Launch} : rj_sm l sm_261 := ok_sm nat_ok (fun _ h => absurd h List.not_mem_nil) oz_261
theorem so_262 {l : Launch} : rj_sm l sm_262 := ok_sm nat_ok (fun _ h => absurd h List.not_mem_nil) oz_262
theorem so_263 {l : Launch} : rj_sm l sm_263 := ok_sm nat_ok (fun _ h => absurd h List.not_mem_nil) oz_263
set_option maxRecDepth 100000 in
theorem so_law {l : Launch} : ∀ S ∈ lw_sms, rj_sm l S := List.forall_mem_cons.mpr ⟨so_1, List.forall_mem_cons.mpr ⟨so_2, List.forall_mem_cons.mpr ⟨so_16, List.forall_mem_cons.mpr ⟨so_17, List.forall_mem_cons.mpr ⟨so_18, List.forall_mem_cons.mpr ⟨so_19, List.forall_mem_cons.mpr ⟨so_33, List.forall_mem_cons.mpr ⟨so_34, List.forall_mem_cons.mpr ⟨so_35, List.forall_mem_cons.mpr ⟨so_37, List.forall_mem_cons.mpr ⟨so_38, List.forall_mem_cons.mpr ⟨so_39, List.forall_mem_cons.mpr ⟨so_40, List.forall_mem_cons.mpr ⟨so_41, List.forall_mem_cons.mpr ⟨so_42, List.forall_mem_cons.mpr ⟨so_44, List.forall_mem_cons.mpr ⟨so_45, List.forall_mem_cons.mpr ⟨so_46, List.forall_mem_cons.mpr ⟨so_47, List.forall_mem_cons.mpr ⟨so_49, List.forall_mem_cons.mpr ⟨so_50, List.forall_mem_cons.mpr ⟨so_52, List.forall_mem_cons.mpr ⟨so_53, List.forall_mem_cons.mpr ⟨so_55, List.forall_mem_cons.mpr ⟨so_57, List.forall_mem_cons.mpr ⟨so_58, List.forall_mem_cons.mpr ⟨so_59, List.forall_mem_cons.mpr ⟨so_60, List.forall_mem_cons.mpr ⟨so_61, List.forall_mem_cons.mpr ⟨so_62, List.forall_mem_cons.mpr ⟨so_63, List.forall_mem_cons.mpr ⟨so_64, List.forall_mem_cons.mpr ⟨so_65, List.forall_mem_cons.mpr ⟨so_67, List.forall_mem_cons.mpr ⟨so_76, List.forall_mem_cons.mpr ⟨so_77, List.forall_mem_cons.mpr ⟨so_78, List.forall_mem_cons.mpr ⟨so_81, List.forall_mem_cons.mpr ⟨so_82, List.forall_mem_cons.mpr ⟨so_83, List.forall_mem_cons.mpr ⟨so_84, List.forall_mem_cons.mpr ⟨so_85, List.forall_mem_cons.mpr ⟨so_86, List.forall_mem_cons.mpr ⟨so_87, List.forall_mem_cons.mpr ⟨so_90, List.forall_mem_cons.mpr ⟨so_99, List.forall_mem_cons.mpr ⟨so_100, List.forall_mem_cons.mpr ⟨so_105, List.forall_mem_cons.mpr ⟨so_106, List.forall_mem_cons.mpr ⟨so_107, List.forall_mem_cons.mpr ⟨so_110, List.forall_mem_cons.mpr ⟨so_111, List.forall_mem_cons.mpr ⟨so_112, List.forall_mem_cons.mpr ⟨so_113, List.forall_mem_cons.mpr ⟨so_114, List.forall_mem_cons.mpr ⟨so_115, List.forall_mem_cons.mpr ⟨so_117, List.forall_mem_cons.mpr ⟨so_118, List.forall_mem_cons.mpr ⟨so_119, List.forall_mem_cons.mpr ⟨so_120, List.forall_mem_cons.mpr ⟨so_121, List.forall_mem_cons.mpr ⟨so_122, List.forall_mem_cons.mpr ⟨so_123, List.forall_mem_cons.mpr ⟨so_125, List.forall_mem_cons.mpr ⟨so_126, List.forall_mem_cons.mpr ⟨so_128, List.forall_mem_cons.mpr ⟨so_129, List.forall_mem_cons.mpr ⟨so_130, List.forall_mem_cons.mpr ⟨so_132, List.forall_mem_cons.mpr ⟨so_140, List.forall_mem_cons.mpr ⟨so_143, List.forall_mem_cons.mpr ⟨so_145, List.forall_mem_cons.mpr ⟨so_146, List.forall_mem_cons.mpr ⟨so_147, List.forall_mem_cons.mpr ⟨so_149, List.forall_mem_cons.mpr ⟨so_161, List.forall_mem_cons.mpr ⟨so_162, List.forall_mem_cons.mpr ⟨so_164, List.forall_mem_cons.mpr ⟨so_173, List.forall_mem_cons.mpr ⟨so_174, List.forall_mem_cons.mpr ⟨so_175, List.forall_mem_cons.mpr ⟨so_177, List.forall_mem_cons.mpr ⟨so_178, List.forall_mem_cons.mpr ⟨so_179, List.forall_mem_cons.mpr ⟨so_180, List.forall_mem_cons.mpr ⟨so_181, List.forall_mem_cons.mpr ⟨so_182, List.forall_mem_cons.mpr ⟨so_184, List.forall_mem_cons.mpr ⟨so_185, List.forall_mem_cons.mpr ⟨so_186, List.forall_mem_cons.mpr ⟨so_187, List.forall_mem_cons.mpr ⟨so_189, List.forall_mem_cons.mpr ⟨so_190, List.forall_mem_cons.mpr ⟨so_192, List.forall_mem_cons.mpr ⟨so_193, List.forall_mem_cons.mpr ⟨so_195, List.forall_mem_cons.mpr ⟨so_196, List.forall_mem_cons.mpr ⟨so_197, List.forall_mem_cons.mpr ⟨so_198, List.forall_mem_cons.mpr ⟨so_199, List.forall_mem_cons.mpr ⟨so_200, List.forall_mem_cons.mpr ⟨so_201, List.forall_mem_cons.mpr ⟨so_202, List.forall_mem_cons.mpr ⟨so_203, List.forall_mem_cons.mpr ⟨so_204, List.forall_mem_cons.mpr ⟨so_206, List.forall_mem_cons.mpr ⟨so_214, List.forall_mem_cons.mpr ⟨so_215, List.forall_mem_cons.mpr ⟨so_216, List.forall_mem_cons.mpr ⟨so_218, List.forall_mem_cons.mpr ⟨so_220, List.forall_mem_cons.mpr ⟨so_221, List.forall_mem_cons.mpr ⟨so_222, List.forall_mem_cons.mpr ⟨so_223, List.forall_mem_cons.mpr ⟨so_224, List.forall_mem_cons.mpr ⟨so_225, List.forall_mem_cons.mpr ⟨so_227, List.forall_mem_cons.mpr ⟨so_230, List.forall_mem_cons.mpr ⟨so_231, List.forall_mem_cons.mpr ⟨so_232, List.forall_mem_cons.mpr ⟨so_233, List.forall_mem_cons.mpr ⟨so_234, List.forall_mem_cons.mpr ⟨so_235, List.forall_mem_cons.mpr ⟨so_236, List.forall_mem_cons.mpr ⟨so_237, List.forall_mem_cons.mpr ⟨so_238, List.forall_mem_cons.mpr ⟨so_239, List.forall_mem_cons.mpr ⟨so_240, List.forall_mem_cons.mpr ⟨so_242, List.forall_mem_cons.mpr ⟨so_243, List.forall_mem_cons.mpr ⟨so_245, List.forall_mem_cons.mpr ⟨so_246, List.forall_mem_cons.mpr ⟨so_247, List.forall_mem_cons.mpr ⟨so_249, List.forall_mem_cons.mpr ⟨so_250, List.forall_mem_cons.mpr ⟨so_251, List.forall_mem_cons.mpr ⟨so_252, List.forall_mem_cons.mpr ⟨so_253, List.forall_mem_cons.mpr ⟨so_254, List.forall_mem_cons.mpr ⟨so_255, List.forall_mem_cons.mpr ⟨so_256, List.forall_mem_cons.mpr ⟨so_257, List.forall_mem_cons.mpr ⟨so_258, List.forall_mem_cons.mpr ⟨so_259, List.forall_mem_cons.mpr ⟨so_261, List.forall_mem_cons.mpr ⟨so_262, List.forall_mem_cons.mpr ⟨so_263, (fun _ h => absurd h List.not_mem_nil)⟩⟩⟩⟩⟩⟩⟩⟩⟩⟩⟩⟩⟩⟩⟩⟩⟩⟩⟩⟩⟩⟩⟩⟩⟩⟩⟩⟩⟩⟩⟩⟩⟩⟩⟩⟩⟩⟩⟩⟩⟩⟩⟩⟩⟩⟩⟩⟩⟩⟩⟩⟩⟩⟩⟩⟩⟩⟩⟩⟩⟩⟩⟩⟩⟩⟩⟩⟩⟩⟩⟩⟩⟩⟩⟩⟩⟩⟩⟩⟩⟩⟩⟩⟩⟩⟩⟩⟩⟩⟩⟩⟩⟩⟩⟩⟩⟩⟩⟩⟩⟩⟩⟩⟩⟩⟩⟩⟩⟩⟩⟩⟩⟩⟩⟩⟩⟩⟩⟩⟩⟩⟩⟩⟩⟩⟩⟩⟩⟩⟩⟩⟩⟩⟩⟩⟩⟩⟩⟩⟩⟩⟩⟩⟩⟩⟩⟩
