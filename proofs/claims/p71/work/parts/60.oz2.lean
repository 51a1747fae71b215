/-! summaries, checked (2) -/
theorem oz_32 : rj_ok sm_32 [sm_21, sm_31] = true := by decide +kernel
theorem oz_33 : rj_ok sm_33 [sm_32] = true := by decide +kernel
theorem oz_34 : rj_ok sm_34 [sm_32] = true := by decide +kernel
theorem oz_35 : rj_ok sm_35 [sm_32] = true := by decide +kernel
theorem oz_36 : rj_ok sm_36 [] = true := by decide +kernel
theorem oz_37 : rj_ok sm_37 [sm_32, sm_36] = true := by decide +kernel
theorem oz_38 : rj_ok sm_38 [sm_32] = true := by decide +kernel
theorem oz_39 : rj_ok sm_39 [sm_32] = true := by decide +kernel
theorem oz_40 : rj_ok sm_40 [sm_32] = true := by decide +kernel
theorem oz_41 : rj_ok sm_41 [sm_32, sm_30] = true := by decide +kernel
theorem oz_42 : rj_ok sm_42 [sm_32] = true := by decide +kernel
theorem oz_43 : rj_ok sm_43 [] = true := by decide +kernel
theorem oz_44 : rj_ok sm_44 [sm_32, sm_43] = true := by decide +kernel
theorem oz_45 : rj_ok sm_45 [sm_32, sm_30] = true := by decide +kernel
theorem oz_46 : rj_ok sm_46 [sm_32] = true := by decide +kernel
theorem oz_47 : rj_ok sm_47 [sm_32, sm_30] = true := by decide +kernel
theorem oz_48 : rj_ok sm_48 [sm_30] = true := by decide +kernel
theorem oz_49 : rj_ok sm_49 [sm_32, sm_48] = true := by decide +kernel
theorem oz_50 : rj_ok sm_50 [sm_32] = true := by decide +kernel
theorem oz_51 : rj_ok sm_51 [] = true := by decide +kernel
theorem oz_52 : rj_ok sm_52 [sm_32, sm_51] = true := by decide +kernel
theorem oz_53 : rj_ok sm_53 [sm_32] = true := by decide +kernel
theorem oz_54 : rj_ok sm_54 [] = true := by decide +kernel
theorem oz_55 : rj_ok sm_55 [sm_32, sm_54] = true := by decide +kernel
theorem oz_56 : rj_ok sm_56 [] = true := by decide +kernel
theorem oz_57 : rj_ok sm_57 [sm_32, sm_54, sm_56] = true := by decide +kernel
theorem oz_58 : rj_ok sm_58 [sm_32, sm_48] = true := by decide +kernel
theorem oz_59 : rj_ok sm_59 [sm_32, sm_30] = true := by decide +kernel
theorem oz_60 : rj_ok sm_60 [sm_32] = true := by decide +kernel
theorem oz_61 : rj_ok sm_61 [sm_32] = true := by decide +kernel
theorem oz_62 : rj_ok sm_62 [sm_32] = true := by decide +kernel
theorem oz_63 : rj_ok sm_63 [sm_32] = true := by decide +kernel
theorem oz_64 : rj_ok sm_64 [sm_32, sm_36] = true := by decide +kernel
theorem oz_65 : rj_ok sm_65 [sm_32] = true := by decide +kernel
theorem oz_66 : rj_ok sm_66 [] = true := by decide +kernel
theorem oz_67 : rj_ok sm_67 [sm_32, sm_30, sm_66] = true := by decide +kernel
theorem oz_68 : rj_ok sm_68 [] = true := by decide +kernel
theorem oz_69 : rj_ok sm_69 [sm_22, sm_26, sm_28, sm_29] = true := by decide +kernel
theorem oz_70 : rj_ok sm_70 [sm_68, sm_69] = true := by decide +kernel
theorem oz_71 : rj_ok sm_71 [] = true := by decide +kernel
theorem oz_72 : rj_ok sm_72 [] = true := by decide +kernel
theorem oz_74 : rj_ok sm_74 [sm_71, sm_72, sm_51, sm_73] = true := by decide +kernel
theorem oz_75 : rj_ok sm_75 [sm_21, sm_70, sm_74] = true := by decide +kernel
theorem oz_76 : rj_ok sm_76 [sm_75] = true := by decide +kernel
theorem oz_77 : rj_ok sm_77 [sm_75] = true := by decide +kernel
theorem oz_78 : rj_ok sm_78 [sm_75] = true := by decide +kernel
theorem oz_79 : rj_ok sm_79 [sm_69, sm_51] = true := by decide +kernel
theorem oz_80 : rj_ok sm_80 [sm_21, sm_79] = true := by decide +kernel
theorem oz_81 : rj_ok sm_81 [sm_80] = true := by decide +kernel
theorem oz_82 : rj_ok sm_82 [sm_80] = true := by decide +kernel
theorem oz_83 : rj_ok sm_83 [sm_80] = true := by decide +kernel
theorem oz_84 : rj_ok sm_84 [sm_80] = true := by decide +kernel
theorem oz_85 : rj_ok sm_85 [sm_21, sm_20, sm_69, sm_51] = true := by decide +kernel
theorem oz_86 : rj_ok sm_86 [sm_32, sm_43, sm_21, sm_20, sm_69] = true := by decide +kernel
theorem oz_87 : rj_ok sm_87 [sm_32, sm_51, sm_21, sm_20, sm_69] = true := by decide +kernel
theorem oz_88 : rj_ok sm_88 [] = true := by decide +kernel
theorem oz_89 : rj_ok sm_89 [] = true := by decide +kernel
theorem oz_90 : rj_ok sm_90 [sm_80, sm_88, sm_89] = true := by decide +kernel
