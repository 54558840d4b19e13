/-! where the table has no length it has no instruction -/
def am_isNop : Instr → Bool
  | .nop => true
  | _ => false
noncomputable def am_zP (mi : Nat) : Prop := ∀ pc, pc < am_sz mi → (!(Nat.beq (am_tab mi pc).2.1 0) || am_isNop (am_tab mi pc).1) = true
theorem am_zq_0 : ∀ pc, pc < 43 → (!(Nat.beq (am_t0 pc).2.1 0) || am_isNop (am_t0 pc).1) = true := by decide +kernel
theorem am_z_0 : am_zP 0 := am_zq_0
theorem am_zq_1 : ∀ pc, pc < 45 → (!(Nat.beq (am_t1 pc).2.1 0) || am_isNop (am_t1 pc).1) = true := by decide +kernel
theorem am_z_1 : am_zP 1 := am_zq_1
theorem am_zq_2 : ∀ pc, pc < 148 → (!(Nat.beq (am_t2 pc).2.1 0) || am_isNop (am_t2 pc).1) = true := by decide +kernel
theorem am_z_2 : am_zP 2 := am_zq_2
theorem am_zq_3 : ∀ pc, pc < 147 → (!(Nat.beq (am_t3 pc).2.1 0) || am_isNop (am_t3 pc).1) = true := by decide +kernel
theorem am_z_3 : am_zP 3 := am_zq_3
theorem am_zq_4 : ∀ pc, pc < 113 → (!(Nat.beq (am_t4 pc).2.1 0) || am_isNop (am_t4 pc).1) = true := by decide +kernel
theorem am_z_4 : am_zP 4 := am_zq_4
theorem am_zq_5 : ∀ pc, pc < 63 → (!(Nat.beq (am_t5 pc).2.1 0) || am_isNop (am_t5 pc).1) = true := by decide +kernel
theorem am_z_5 : am_zP 5 := am_zq_5
theorem am_zq_6 : ∀ pc, pc < 98 → (!(Nat.beq (am_t6 pc).2.1 0) || am_isNop (am_t6 pc).1) = true := by decide +kernel
theorem am_z_6 : am_zP 6 := am_zq_6
theorem am_zq_7 : ∀ pc, pc < 5 → (!(Nat.beq (am_t7 pc).2.1 0) || am_isNop (am_t7 pc).1) = true := by decide +kernel
theorem am_z_7 : am_zP 7 := am_zq_7
theorem am_zq_8 : ∀ pc, pc < 187 → (!(Nat.beq (am_t8 pc).2.1 0) || am_isNop (am_t8 pc).1) = true := by decide +kernel
theorem am_z_8 : am_zP 8 := am_zq_8
theorem am_zq_9 : ∀ pc, pc < 85 → (!(Nat.beq (am_t9 pc).2.1 0) || am_isNop (am_t9 pc).1) = true := by decide +kernel
theorem am_z_9 : am_zP 9 := am_zq_9
theorem am_zq_10 : ∀ pc, pc < 18 → (!(Nat.beq (am_t10 pc).2.1 0) || am_isNop (am_t10 pc).1) = true := by decide +kernel
theorem am_z_10 : am_zP 10 := am_zq_10
theorem am_zq_11 : ∀ pc, pc < 15 → (!(Nat.beq (am_t11 pc).2.1 0) || am_isNop (am_t11 pc).1) = true := by decide +kernel
theorem am_z_11 : am_zP 11 := am_zq_11
theorem am_zq_12 : ∀ pc, pc < 57 → (!(Nat.beq (am_t12 pc).2.1 0) || am_isNop (am_t12 pc).1) = true := by decide +kernel
theorem am_z_12 : am_zP 12 := am_zq_12
theorem am_zq_13 : ∀ pc, pc < 49 → (!(Nat.beq (am_t13 pc).2.1 0) || am_isNop (am_t13 pc).1) = true := by decide +kernel
theorem am_z_13 : am_zP 13 := am_zq_13
theorem am_zq_14 : ∀ pc, pc < 46 → (!(Nat.beq (am_t14 pc).2.1 0) || am_isNop (am_t14 pc).1) = true := by decide +kernel
theorem am_z_14 : am_zP 14 := am_zq_14
theorem am_zq_15 : ∀ pc, pc < 45 → (!(Nat.beq (am_t15 pc).2.1 0) || am_isNop (am_t15 pc).1) = true := by decide +kernel
theorem am_z_15 : am_zP 15 := am_zq_15
theorem am_zq_16 : ∀ pc, pc < 67 → (!(Nat.beq (am_t16 pc).2.1 0) || am_isNop (am_t16 pc).1) = true := by decide +kernel
theorem am_z_16 : am_zP 16 := am_zq_16
theorem am_zq_17 : ∀ pc, pc < 71 → (!(Nat.beq (am_t17 pc).2.1 0) || am_isNop (am_t17 pc).1) = true := by decide +kernel
theorem am_z_17 : am_zP 17 := am_zq_17
theorem am_zq_18 : ∀ pc, pc < 61 → (!(Nat.beq (am_t18 pc).2.1 0) || am_isNop (am_t18 pc).1) = true := by decide +kernel
theorem am_z_18 : am_zP 18 := am_zq_18
theorem am_zq_19 : ∀ pc, pc < 18 → (!(Nat.beq (am_t19 pc).2.1 0) || am_isNop (am_t19 pc).1) = true := by decide +kernel
theorem am_z_19 : am_zP 19 := am_zq_19
theorem am_zq_20 : ∀ pc, pc < 50 → (!(Nat.beq (am_t20 pc).2.1 0) || am_isNop (am_t20 pc).1) = true := by decide +kernel
theorem am_z_20 : am_zP 20 := am_zq_20
theorem am_zq_21 : ∀ pc, pc < 70 → (!(Nat.beq (am_t21 pc).2.1 0) || am_isNop (am_t21 pc).1) = true := by decide +kernel
theorem am_z_21 : am_zP 21 := am_zq_21
theorem am_zq_22 : ∀ pc, pc < 20 → (!(Nat.beq (am_t22 pc).2.1 0) || am_isNop (am_t22 pc).1) = true := by decide +kernel
theorem am_z_22 : am_zP 22 := am_zq_22
theorem am_zq_23 : ∀ pc, pc < 34 → (!(Nat.beq (am_t23 pc).2.1 0) || am_isNop (am_t23 pc).1) = true := by decide +kernel
theorem am_z_23 : am_zP 23 := am_zq_23
theorem am_zq_24 : ∀ pc, pc < 109 → (!(Nat.beq (am_t24 pc).2.1 0) || am_isNop (am_t24 pc).1) = true := by decide +kernel
theorem am_z_24 : am_zP 24 := am_zq_24
theorem am_zq_25 : ∀ pc, pc < 161 → (!(Nat.beq (am_t25 pc).2.1 0) || am_isNop (am_t25 pc).1) = true := by decide +kernel
theorem am_z_25 : am_zP 25 := am_zq_25
theorem am_zq_26 : ∀ pc, pc < 38 → (!(Nat.beq (am_t26 pc).2.1 0) || am_isNop (am_t26 pc).1) = true := by decide +kernel
theorem am_z_26 : am_zP 26 := am_zq_26
theorem am_zq_27 : ∀ pc, pc < 58 → (!(Nat.beq (am_t27 pc).2.1 0) || am_isNop (am_t27 pc).1) = true := by decide +kernel
theorem am_z_27 : am_zP 27 := am_zq_27
theorem am_zq_28 : ∀ pc, pc < 15 → (!(Nat.beq (am_t28 pc).2.1 0) || am_isNop (am_t28 pc).1) = true := by decide +kernel
theorem am_z_28 : am_zP 28 := am_zq_28
theorem am_zq_29 : ∀ pc, pc < 50 → (!(Nat.beq (am_t29 pc).2.1 0) || am_isNop (am_t29 pc).1) = true := by decide +kernel
theorem am_z_29 : am_zP 29 := am_zq_29
theorem am_zq_30 : ∀ pc, pc < 31 → (!(Nat.beq (am_t30 pc).2.1 0) || am_isNop (am_t30 pc).1) = true := by decide +kernel
theorem am_z_30 : am_zP 30 := am_zq_30
theorem am_zq_31 : ∀ pc, pc < 113 → (!(Nat.beq (am_t31 pc).2.1 0) || am_isNop (am_t31 pc).1) = true := by decide +kernel
theorem am_z_31 : am_zP 31 := am_zq_31
theorem am_zq_32 : ∀ pc, pc < 120 → (!(Nat.beq (am_t32 pc).2.1 0) || am_isNop (am_t32 pc).1) = true := by decide +kernel
theorem am_z_32 : am_zP 32 := am_zq_32
theorem am_zq_33 : ∀ pc, pc < 28 → (!(Nat.beq (am_t33 pc).2.1 0) || am_isNop (am_t33 pc).1) = true := by decide +kernel
theorem am_z_33 : am_zP 33 := am_zq_33
theorem am_zq_34 : ∀ pc, pc < 81 → (!(Nat.beq (am_t34 pc).2.1 0) || am_isNop (am_t34 pc).1) = true := by decide +kernel
theorem am_z_34 : am_zP 34 := am_zq_34
theorem am_zq_35 : ∀ pc, pc < 110 → (!(Nat.beq (am_t35 pc).2.1 0) || am_isNop (am_t35 pc).1) = true := by decide +kernel
theorem am_z_35 : am_zP 35 := am_zq_35
theorem am_zq_36 : ∀ pc, pc < 76 → (!(Nat.beq (am_t36 pc).2.1 0) || am_isNop (am_t36 pc).1) = true := by decide +kernel
theorem am_z_36 : am_zP 36 := am_zq_36
theorem am_zq_37 : ∀ pc, pc < 32 → (!(Nat.beq (am_t37 pc).2.1 0) || am_isNop (am_t37 pc).1) = true := by decide +kernel
theorem am_z_37 : am_zP 37 := am_zq_37
theorem am_zq_38 : ∀ pc, pc < 50 → (!(Nat.beq (am_t38 pc).2.1 0) || am_isNop (am_t38 pc).1) = true := by decide +kernel
theorem am_z_38 : am_zP 38 := am_zq_38
theorem am_zq_39 : ∀ pc, pc < 43 → (!(Nat.beq (am_t39 pc).2.1 0) || am_isNop (am_t39 pc).1) = true := by decide +kernel
theorem am_z_39 : am_zP 39 := am_zq_39
theorem am_zq_40 : ∀ pc, pc < 30 → (!(Nat.beq (am_t40 pc).2.1 0) || am_isNop (am_t40 pc).1) = true := by decide +kernel
theorem am_z_40 : am_zP 40 := am_zq_40
theorem am_zq_41 : ∀ pc, pc < 33 → (!(Nat.beq (am_t41 pc).2.1 0) || am_isNop (am_t41 pc).1) = true := by decide +kernel
theorem am_z_41 : am_zP 41 := am_zq_41
theorem am_zq_42 : ∀ pc, pc < 78 → (!(Nat.beq (am_t42 pc).2.1 0) || am_isNop (am_t42 pc).1) = true := by decide +kernel
theorem am_z_42 : am_zP 42 := am_zq_42
theorem am_zq_43 : ∀ pc, pc < 33 → (!(Nat.beq (am_t43 pc).2.1 0) || am_isNop (am_t43 pc).1) = true := by decide +kernel
theorem am_z_43 : am_zP 43 := am_zq_43
theorem am_zq_44 : ∀ pc, pc < 29 → (!(Nat.beq (am_t44 pc).2.1 0) || am_isNop (am_t44 pc).1) = true := by decide +kernel
theorem am_z_44 : am_zP 44 := am_zq_44
theorem am_zq_45 : ∀ pc, pc < 143 → (!(Nat.beq (am_t45 pc).2.1 0) || am_isNop (am_t45 pc).1) = true := by decide +kernel
theorem am_z_45 : am_zP 45 := am_zq_45
theorem am_zq_46 : ∀ pc, pc < 294 → (!(Nat.beq (am_t46 pc).2.1 0) || am_isNop (am_t46 pc).1) = true := by decide +kernel
theorem am_z_46 : am_zP 46 := am_zq_46
theorem am_zq_47 : ∀ pc, pc < 15 → (!(Nat.beq (am_t47 pc).2.1 0) || am_isNop (am_t47 pc).1) = true := by decide +kernel
theorem am_z_47 : am_zP 47 := am_zq_47
theorem am_zq_48 : ∀ pc, pc < 5 → (!(Nat.beq (am_t48 pc).2.1 0) || am_isNop (am_t48 pc).1) = true := by decide +kernel
theorem am_z_48 : am_zP 48 := am_zq_48
theorem am_zq_49 : ∀ pc, pc < 22 → (!(Nat.beq (am_t49 pc).2.1 0) || am_isNop (am_t49 pc).1) = true := by decide +kernel
theorem am_z_49 : am_zP 49 := am_zq_49
theorem am_zq_50 : ∀ pc, pc < 26 → (!(Nat.beq (am_t50 pc).2.1 0) || am_isNop (am_t50 pc).1) = true := by decide +kernel
theorem am_z_50 : am_zP 50 := am_zq_50
theorem am_zq_51 : ∀ pc, pc < 82 → (!(Nat.beq (am_t51 pc).2.1 0) || am_isNop (am_t51 pc).1) = true := by decide +kernel
theorem am_z_51 : am_zP 51 := am_zq_51
theorem am_zq_52 : ∀ pc, pc < 66 → (!(Nat.beq (am_t52 pc).2.1 0) || am_isNop (am_t52 pc).1) = true := by decide +kernel
theorem am_z_52 : am_zP 52 := am_zq_52
theorem am_zq_53 : ∀ pc, pc < 44 → (!(Nat.beq (am_t53 pc).2.1 0) || am_isNop (am_t53 pc).1) = true := by decide +kernel
theorem am_z_53 : am_zP 53 := am_zq_53
theorem am_zq_54 : ∀ pc, pc < 147 → (!(Nat.beq (am_t54 pc).2.1 0) || am_isNop (am_t54 pc).1) = true := by decide +kernel
theorem am_z_54 : am_zP 54 := am_zq_54
theorem am_zq_55 : ∀ pc, pc < 74 → (!(Nat.beq (am_t55 pc).2.1 0) || am_isNop (am_t55 pc).1) = true := by decide +kernel
theorem am_z_55 : am_zP 55 := am_zq_55
theorem am_zq_56 : ∀ pc, pc < 20 → (!(Nat.beq (am_t56 pc).2.1 0) || am_isNop (am_t56 pc).1) = true := by decide +kernel
theorem am_z_56 : am_zP 56 := am_zq_56
theorem am_zq_57 : ∀ pc, pc < 20 → (!(Nat.beq (am_t57 pc).2.1 0) || am_isNop (am_t57 pc).1) = true := by decide +kernel
theorem am_z_57 : am_zP 57 := am_zq_57
theorem am_zq_58 : ∀ pc, pc < 34 → (!(Nat.beq (am_t58 pc).2.1 0) || am_isNop (am_t58 pc).1) = true := by decide +kernel
theorem am_z_58 : am_zP 58 := am_zq_58
theorem am_zq_59 : ∀ pc, pc < 27 → (!(Nat.beq (am_t59 pc).2.1 0) || am_isNop (am_t59 pc).1) = true := by decide +kernel
theorem am_z_59 : am_zP 59 := am_zq_59
theorem am_zq_60 : ∀ pc, pc < 28 → (!(Nat.beq (am_t60 pc).2.1 0) || am_isNop (am_t60 pc).1) = true := by decide +kernel
theorem am_z_60 : am_zP 60 := am_zq_60
theorem am_zq_61 : ∀ pc, pc < 23 → (!(Nat.beq (am_t61 pc).2.1 0) || am_isNop (am_t61 pc).1) = true := by decide +kernel
theorem am_z_61 : am_zP 61 := am_zq_61
theorem am_zq_62 : ∀ pc, pc < 40 → (!(Nat.beq (am_t62 pc).2.1 0) || am_isNop (am_t62 pc).1) = true := by decide +kernel
theorem am_z_62 : am_zP 62 := am_zq_62
theorem am_zq_63 : ∀ pc, pc < 41 → (!(Nat.beq (am_t63 pc).2.1 0) || am_isNop (am_t63 pc).1) = true := by decide +kernel
theorem am_z_63 : am_zP 63 := am_zq_63
theorem am_zq_64 : ∀ pc, pc < 41 → (!(Nat.beq (am_t64 pc).2.1 0) || am_isNop (am_t64 pc).1) = true := by decide +kernel
theorem am_z_64 : am_zP 64 := am_zq_64
theorem am_zq_65 : ∀ pc, pc < 15 → (!(Nat.beq (am_t65 pc).2.1 0) || am_isNop (am_t65 pc).1) = true := by decide +kernel
theorem am_z_65 : am_zP 65 := am_zq_65
theorem am_zq_66 : ∀ pc, pc < 21 → (!(Nat.beq (am_t66 pc).2.1 0) || am_isNop (am_t66 pc).1) = true := by decide +kernel
theorem am_z_66 : am_zP 66 := am_zq_66
theorem am_zq_67 : ∀ pc, pc < 133 → (!(Nat.beq (am_t67 pc).2.1 0) || am_isNop (am_t67 pc).1) = true := by decide +kernel
theorem am_z_67 : am_zP 67 := am_zq_67
theorem am_zq_68 : ∀ pc, pc < 50 → (!(Nat.beq (am_t68 pc).2.1 0) || am_isNop (am_t68 pc).1) = true := by decide +kernel
theorem am_z_68 : am_zP 68 := am_zq_68
theorem am_zq_69 : ∀ pc, pc < 115 → (!(Nat.beq (am_t69 pc).2.1 0) || am_isNop (am_t69 pc).1) = true := by decide +kernel
theorem am_z_69 : am_zP 69 := am_zq_69
theorem am_zq_70 : ∀ pc, pc < 27 → (!(Nat.beq (am_t70 pc).2.1 0) || am_isNop (am_t70 pc).1) = true := by decide +kernel
theorem am_z_70 : am_zP 70 := am_zq_70
theorem am_zq_71 : ∀ pc, pc < 105 → (!(Nat.beq (am_t71 pc).2.1 0) || am_isNop (am_t71 pc).1) = true := by decide +kernel
theorem am_z_71 : am_zP 71 := am_zq_71
theorem am_zq_72 : ∀ pc, pc < 22 → (!(Nat.beq (am_t72 pc).2.1 0) || am_isNop (am_t72 pc).1) = true := by decide +kernel
theorem am_z_72 : am_zP 72 := am_zq_72
theorem am_zq_73 : ∀ pc, pc < 50 → (!(Nat.beq (am_t73 pc).2.1 0) || am_isNop (am_t73 pc).1) = true := by decide +kernel
theorem am_z_73 : am_zP 73 := am_zq_73
theorem am_zq_74 : ∀ pc, pc < 276 → (!(Nat.beq (am_t74 pc).2.1 0) || am_isNop (am_t74 pc).1) = true := by decide +kernel
theorem am_z_74 : am_zP 74 := am_zq_74
theorem am_zq_75 : ∀ pc, pc < 23 → (!(Nat.beq (am_t75 pc).2.1 0) || am_isNop (am_t75 pc).1) = true := by decide +kernel
theorem am_z_75 : am_zP 75 := am_zq_75
theorem am_zq_76 : ∀ pc, pc < 200 → (!(Nat.beq (am_t76 pc).2.1 0) || am_isNop (am_t76 pc).1) = true := by decide +kernel
theorem am_z_76 : am_zP 76 := am_zq_76
theorem am_zq_77 : ∀ pc, pc < 138 → (!(Nat.beq (am_t77 pc).2.1 0) || am_isNop (am_t77 pc).1) = true := by decide +kernel
theorem am_z_77 : am_zP 77 := am_zq_77
theorem am_zq_78 : ∀ pc, pc < 102 → (!(Nat.beq (am_t78 pc).2.1 0) || am_isNop (am_t78 pc).1) = true := by decide +kernel
theorem am_z_78 : am_zP 78 := am_zq_78
theorem am_zq_79 : ∀ pc, pc < 22 → (!(Nat.beq (am_t79 pc).2.1 0) || am_isNop (am_t79 pc).1) = true := by decide +kernel
theorem am_z_79 : am_zP 79 := am_zq_79
theorem am_zq_80 : ∀ pc, pc < 26 → (!(Nat.beq (am_t80 pc).2.1 0) || am_isNop (am_t80 pc).1) = true := by decide +kernel
theorem am_z_80 : am_zP 80 := am_zq_80
theorem am_zq_81 : ∀ pc, pc < 53 → (!(Nat.beq (am_t81 pc).2.1 0) || am_isNop (am_t81 pc).1) = true := by decide +kernel
theorem am_z_81 : am_zP 81 := am_zq_81
theorem am_zq_82 : ∀ pc, pc < 54 → (!(Nat.beq (am_t82 pc).2.1 0) || am_isNop (am_t82 pc).1) = true := by decide +kernel
theorem am_z_82 : am_zP 82 := am_zq_82
theorem am_zq_83 : ∀ pc, pc < 55 → (!(Nat.beq (am_t83 pc).2.1 0) || am_isNop (am_t83 pc).1) = true := by decide +kernel
theorem am_z_83 : am_zP 83 := am_zq_83
theorem am_zq_84 : ∀ pc, pc < 28 → (!(Nat.beq (am_t84 pc).2.1 0) || am_isNop (am_t84 pc).1) = true := by decide +kernel
theorem am_z_84 : am_zP 84 := am_zq_84
theorem am_zq_85 : ∀ pc, pc < 81 → (!(Nat.beq (am_t85 pc).2.1 0) || am_isNop (am_t85 pc).1) = true := by decide +kernel
theorem am_z_85 : am_zP 85 := am_zq_85
theorem am_zq_86 : ∀ pc, pc < 105 → (!(Nat.beq (am_t86 pc).2.1 0) || am_isNop (am_t86 pc).1) = true := by decide +kernel
theorem am_z_86 : am_zP 86 := am_zq_86
theorem am_zq_87 : ∀ pc, pc < 51 → (!(Nat.beq (am_t87 pc).2.1 0) || am_isNop (am_t87 pc).1) = true := by decide +kernel
theorem am_z_87 : am_zP 87 := am_zq_87
theorem am_zq_88 : ∀ pc, pc < 95 → (!(Nat.beq (am_t88 pc).2.1 0) || am_isNop (am_t88 pc).1) = true := by decide +kernel
theorem am_z_88 : am_zP 88 := am_zq_88
theorem am_zq_89 : ∀ pc, pc < 85 → (!(Nat.beq (am_t89 pc).2.1 0) || am_isNop (am_t89 pc).1) = true := by decide +kernel
theorem am_z_89 : am_zP 89 := am_zq_89
theorem am_zq_90 : ∀ pc, pc < 28 → (!(Nat.beq (am_t90 pc).2.1 0) || am_isNop (am_t90 pc).1) = true := by decide +kernel
theorem am_z_90 : am_zP 90 := am_zq_90
theorem am_zq_91 : ∀ pc, pc < 78 → (!(Nat.beq (am_t91 pc).2.1 0) || am_isNop (am_t91 pc).1) = true := by decide +kernel
theorem am_z_91 : am_zP 91 := am_zq_91
theorem am_zq_92 : ∀ pc, pc < 100 → (!(Nat.beq (am_t92 pc).2.1 0) || am_isNop (am_t92 pc).1) = true := by decide +kernel
theorem am_z_92 : am_zP 92 := am_zq_92
theorem am_zq_93 : ∀ pc, pc < 45 → (!(Nat.beq (am_t93 pc).2.1 0) || am_isNop (am_t93 pc).1) = true := by decide +kernel
theorem am_z_93 : am_zP 93 := am_zq_93
theorem am_zq_94 : ∀ pc, pc < 39 → (!(Nat.beq (am_t94 pc).2.1 0) || am_isNop (am_t94 pc).1) = true := by decide +kernel
theorem am_z_94 : am_zP 94 := am_zq_94
theorem am_zq_95 : ∀ pc, pc < 99 → (!(Nat.beq (am_t95 pc).2.1 0) || am_isNop (am_t95 pc).1) = true := by decide +kernel
theorem am_z_95 : am_zP 95 := am_zq_95
theorem am_zq_96 : ∀ pc, pc < 52 → (!(Nat.beq (am_t96 pc).2.1 0) || am_isNop (am_t96 pc).1) = true := by decide +kernel
theorem am_z_96 : am_zP 96 := am_zq_96
theorem am_zq_97 : ∀ pc, pc < 52 → (!(Nat.beq (am_t97 pc).2.1 0) || am_isNop (am_t97 pc).1) = true := by decide +kernel
theorem am_z_97 : am_zP 97 := am_zq_97
theorem am_zq_98 : ∀ pc, pc < 152 → (!(Nat.beq (am_t98 pc).2.1 0) || am_isNop (am_t98 pc).1) = true := by decide +kernel
theorem am_z_98 : am_zP 98 := am_zq_98
theorem am_zq_99 : ∀ pc, pc < 49 → (!(Nat.beq (am_t99 pc).2.1 0) || am_isNop (am_t99 pc).1) = true := by decide +kernel
theorem am_z_99 : am_zP 99 := am_zq_99
theorem am_zq_100 : ∀ pc, pc < 56 → (!(Nat.beq (am_t100 pc).2.1 0) || am_isNop (am_t100 pc).1) = true := by decide +kernel
theorem am_z_100 : am_zP 100 := am_zq_100
theorem am_zq_101 : ∀ pc, pc < 68 → (!(Nat.beq (am_t101 pc).2.1 0) || am_isNop (am_t101 pc).1) = true := by decide +kernel
theorem am_z_101 : am_zP 101 := am_zq_101
theorem am_zq_102 : ∀ pc, pc < 78 → (!(Nat.beq (am_t102 pc).2.1 0) || am_isNop (am_t102 pc).1) = true := by decide +kernel
theorem am_z_102 : am_zP 102 := am_zq_102
theorem am_zq_103 : ∀ pc, pc < 141 → (!(Nat.beq (am_t103 pc).2.1 0) || am_isNop (am_t103 pc).1) = true := by decide +kernel
theorem am_z_103 : am_zP 103 := am_zq_103
theorem am_zq_104 : ∀ pc, pc < 39 → (!(Nat.beq (am_t104 pc).2.1 0) || am_isNop (am_t104 pc).1) = true := by decide +kernel
theorem am_z_104 : am_zP 104 := am_zq_104
theorem am_zq_105 : ∀ pc, pc < 13 → (!(Nat.beq (am_t105 pc).2.1 0) || am_isNop (am_t105 pc).1) = true := by decide +kernel
theorem am_z_105 : am_zP 105 := am_zq_105
theorem am_zq_106 : ∀ pc, pc < 17 → (!(Nat.beq (am_t106 pc).2.1 0) || am_isNop (am_t106 pc).1) = true := by decide +kernel
theorem am_z_106 : am_zP 106 := am_zq_106
theorem am_zq_107 : ∀ pc, pc < 22 → (!(Nat.beq (am_t107 pc).2.1 0) || am_isNop (am_t107 pc).1) = true := by decide +kernel
theorem am_z_107 : am_zP 107 := am_zq_107
theorem am_zq_108 : ∀ pc, pc < 90 → (!(Nat.beq (am_t108 pc).2.1 0) || am_isNop (am_t108 pc).1) = true := by decide +kernel
theorem am_z_108 : am_zP 108 := am_zq_108
theorem am_zq_109 : ∀ pc, pc < 72 → (!(Nat.beq (am_t109 pc).2.1 0) || am_isNop (am_t109 pc).1) = true := by decide +kernel
theorem am_z_109 : am_zP 109 := am_zq_109
theorem am_zq_110 : ∀ pc, pc < 12 → (!(Nat.beq (am_t110 pc).2.1 0) || am_isNop (am_t110 pc).1) = true := by decide +kernel
theorem am_z_110 : am_zP 110 := am_zq_110
theorem am_zq_111 : ∀ pc, pc < 33 → (!(Nat.beq (am_t111 pc).2.1 0) || am_isNop (am_t111 pc).1) = true := by decide +kernel
theorem am_z_111 : am_zP 111 := am_zq_111
theorem am_zq_112 : ∀ pc, pc < 59 → (!(Nat.beq (am_t112 pc).2.1 0) || am_isNop (am_t112 pc).1) = true := by decide +kernel
theorem am_z_112 : am_zP 112 := am_zq_112
theorem am_zq_113 : ∀ pc, pc < 46 → (!(Nat.beq (am_t113 pc).2.1 0) || am_isNop (am_t113 pc).1) = true := by decide +kernel
theorem am_z_113 : am_zP 113 := am_zq_113
theorem am_zq_114 : ∀ pc, pc < 102 → (!(Nat.beq (am_t114 pc).2.1 0) || am_isNop (am_t114 pc).1) = true := by decide +kernel
theorem am_z_114 : am_zP 114 := am_zq_114
theorem am_zq_115 : ∀ pc, pc < 55 → (!(Nat.beq (am_t115 pc).2.1 0) || am_isNop (am_t115 pc).1) = true := by decide +kernel
theorem am_z_115 : am_zP 115 := am_zq_115
theorem am_zq_116 : ∀ pc, pc < 47 → (!(Nat.beq (am_t116 pc).2.1 0) || am_isNop (am_t116 pc).1) = true := by decide +kernel
theorem am_z_116 : am_zP 116 := am_zq_116
theorem am_zq_117 : ∀ pc, pc < 45 → (!(Nat.beq (am_t117 pc).2.1 0) || am_isNop (am_t117 pc).1) = true := by decide +kernel
theorem am_z_117 : am_zP 117 := am_zq_117
theorem am_zq_118 : ∀ pc, pc < 124 → (!(Nat.beq (am_t118 pc).2.1 0) || am_isNop (am_t118 pc).1) = true := by decide +kernel
theorem am_z_118 : am_zP 118 := am_zq_118
theorem am_zq_119 : ∀ pc, pc < 97 → (!(Nat.beq (am_t119 pc).2.1 0) || am_isNop (am_t119 pc).1) = true := by decide +kernel
theorem am_z_119 : am_zP 119 := am_zq_119
theorem am_zq_120 : ∀ pc, pc < 157 → (!(Nat.beq (am_t120 pc).2.1 0) || am_isNop (am_t120 pc).1) = true := by decide +kernel
theorem am_z_120 : am_zP 120 := am_zq_120
theorem am_zq_121 : ∀ pc, pc < 91 → (!(Nat.beq (am_t121 pc).2.1 0) || am_isNop (am_t121 pc).1) = true := by decide +kernel
theorem am_z_121 : am_zP 121 := am_zq_121
theorem am_zq_122 : ∀ pc, pc < 96 → (!(Nat.beq (am_t122 pc).2.1 0) || am_isNop (am_t122 pc).1) = true := by decide +kernel
theorem am_z_122 : am_zP 122 := am_zq_122
theorem am_zq_123 : ∀ pc, pc < 55 → (!(Nat.beq (am_t123 pc).2.1 0) || am_isNop (am_t123 pc).1) = true := by decide +kernel
theorem am_z_123 : am_zP 123 := am_zq_123
theorem am_zq_124 : ∀ pc, pc < 67 → (!(Nat.beq (am_t124 pc).2.1 0) || am_isNop (am_t124 pc).1) = true := by decide +kernel
theorem am_z_124 : am_zP 124 := am_zq_124
theorem am_zq_125 : ∀ pc, pc < 41 → (!(Nat.beq (am_t125 pc).2.1 0) || am_isNop (am_t125 pc).1) = true := by decide +kernel
theorem am_z_125 : am_zP 125 := am_zq_125
theorem am_zq_126 : ∀ pc, pc < 78 → (!(Nat.beq (am_t126 pc).2.1 0) || am_isNop (am_t126 pc).1) = true := by decide +kernel
theorem am_z_126 : am_zP 126 := am_zq_126
theorem am_zq_127 : ∀ pc, pc < 43 → (!(Nat.beq (am_t127 pc).2.1 0) || am_isNop (am_t127 pc).1) = true := by decide +kernel
theorem am_z_127 : am_zP 127 := am_zq_127
theorem am_zq_128 : ∀ pc, pc < 54 → (!(Nat.beq (am_t128 pc).2.1 0) || am_isNop (am_t128 pc).1) = true := by decide +kernel
theorem am_z_128 : am_zP 128 := am_zq_128
theorem am_zq_129 : ∀ pc, pc < 56 → (!(Nat.beq (am_t129 pc).2.1 0) || am_isNop (am_t129 pc).1) = true := by decide +kernel
theorem am_z_129 : am_zP 129 := am_zq_129
theorem am_zq_130 : ∀ pc, pc < 50 → (!(Nat.beq (am_t130 pc).2.1 0) || am_isNop (am_t130 pc).1) = true := by decide +kernel
theorem am_z_130 : am_zP 130 := am_zq_130
theorem am_zq_131 : ∀ pc, pc < 27 → (!(Nat.beq (am_t131 pc).2.1 0) || am_isNop (am_t131 pc).1) = true := by decide +kernel
theorem am_z_131 : am_zP 131 := am_zq_131
theorem am_zq_132 : ∀ pc, pc < 28 → (!(Nat.beq (am_t132 pc).2.1 0) || am_isNop (am_t132 pc).1) = true := by decide +kernel
theorem am_z_132 : am_zP 132 := am_zq_132
theorem am_zq_133 : ∀ pc, pc < 36 → (!(Nat.beq (am_t133 pc).2.1 0) || am_isNop (am_t133 pc).1) = true := by decide +kernel
theorem am_z_133 : am_zP 133 := am_zq_133
theorem am_zq_134 : ∀ pc, pc < 28 → (!(Nat.beq (am_t134 pc).2.1 0) || am_isNop (am_t134 pc).1) = true := by decide +kernel
theorem am_z_134 : am_zP 134 := am_zq_134
theorem am_zq_135 : ∀ pc, pc < 70 → (!(Nat.beq (am_t135 pc).2.1 0) || am_isNop (am_t135 pc).1) = true := by decide +kernel
theorem am_z_135 : am_zP 135 := am_zq_135
theorem am_zq_136 : ∀ pc, pc < 73 → (!(Nat.beq (am_t136 pc).2.1 0) || am_isNop (am_t136 pc).1) = true := by decide +kernel
theorem am_z_136 : am_zP 136 := am_zq_136
theorem am_zq_137 : ∀ pc, pc < 80 → (!(Nat.beq (am_t137 pc).2.1 0) || am_isNop (am_t137 pc).1) = true := by decide +kernel
theorem am_z_137 : am_zP 137 := am_zq_137
theorem am_zq_138 : ∀ pc, pc < 24 → (!(Nat.beq (am_t138 pc).2.1 0) || am_isNop (am_t138 pc).1) = true := by decide +kernel
theorem am_z_138 : am_zP 138 := am_zq_138
theorem am_zq_139 : ∀ pc, pc < 164 → (!(Nat.beq (am_t139 pc).2.1 0) || am_isNop (am_t139 pc).1) = true := by decide +kernel
theorem am_z_139 : am_zP 139 := am_zq_139
theorem am_zq_140 : ∀ pc, pc < 5 → (!(Nat.beq (am_t140 pc).2.1 0) || am_isNop (am_t140 pc).1) = true := by decide +kernel
theorem am_z_140 : am_zP 140 := am_zq_140
theorem am_zq_141 : ∀ pc, pc < 72 → (!(Nat.beq (am_t141 pc).2.1 0) || am_isNop (am_t141 pc).1) = true := by decide +kernel
theorem am_z_141 : am_zP 141 := am_zq_141
theorem am_zq_142 : ∀ pc, pc < 38 → (!(Nat.beq (am_t142 pc).2.1 0) || am_isNop (am_t142 pc).1) = true := by decide +kernel
theorem am_z_142 : am_zP 142 := am_zq_142
theorem am_zq_143 : ∀ pc, pc < 87 → (!(Nat.beq (am_t143 pc).2.1 0) || am_isNop (am_t143 pc).1) = true := by decide +kernel
theorem am_z_143 : am_zP 143 := am_zq_143
theorem am_zq_144 : ∀ pc, pc < 63 → (!(Nat.beq (am_t144 pc).2.1 0) || am_isNop (am_t144 pc).1) = true := by decide +kernel
theorem am_z_144 : am_zP 144 := am_zq_144
theorem am_zq_145 : ∀ pc, pc < 86 → (!(Nat.beq (am_t145 pc).2.1 0) || am_isNop (am_t145 pc).1) = true := by decide +kernel
theorem am_z_145 : am_zP 145 := am_zq_145
theorem am_zq_146 : ∀ pc, pc < 41 → (!(Nat.beq (am_t146 pc).2.1 0) || am_isNop (am_t146 pc).1) = true := by decide +kernel
theorem am_z_146 : am_zP 146 := am_zq_146
theorem am_zq_147 : ∀ pc, pc < 70 → (!(Nat.beq (am_t147 pc).2.1 0) || am_isNop (am_t147 pc).1) = true := by decide +kernel
theorem am_z_147 : am_zP 147 := am_zq_147
theorem am_zq_148 : ∀ pc, pc < 32 → (!(Nat.beq (am_t148 pc).2.1 0) || am_isNop (am_t148 pc).1) = true := by decide +kernel
theorem am_z_148 : am_zP 148 := am_zq_148
theorem am_zq_149 : ∀ pc, pc < 48 → (!(Nat.beq (am_t149 pc).2.1 0) || am_isNop (am_t149 pc).1) = true := by decide +kernel
theorem am_z_149 : am_zP 149 := am_zq_149
theorem am_zq_150 : ∀ pc, pc < 93 → (!(Nat.beq (am_t150 pc).2.1 0) || am_isNop (am_t150 pc).1) = true := by decide +kernel
theorem am_z_150 : am_zP 150 := am_zq_150
theorem am_zq_151 : ∀ pc, pc < 94 → (!(Nat.beq (am_t151 pc).2.1 0) || am_isNop (am_t151 pc).1) = true := by decide +kernel
theorem am_z_151 : am_zP 151 := am_zq_151
theorem am_zq_152 : ∀ pc, pc < 181 → (!(Nat.beq (am_t152 pc).2.1 0) || am_isNop (am_t152 pc).1) = true := by decide +kernel
theorem am_z_152 : am_zP 152 := am_zq_152
theorem am_zq_153 : ∀ pc, pc < 33 → (!(Nat.beq (am_t153 pc).2.1 0) || am_isNop (am_t153 pc).1) = true := by decide +kernel
theorem am_z_153 : am_zP 153 := am_zq_153
theorem am_zq_154 : ∀ pc, pc < 23 → (!(Nat.beq (am_t154 pc).2.1 0) || am_isNop (am_t154 pc).1) = true := by decide +kernel
theorem am_z_154 : am_zP 154 := am_zq_154
theorem am_zq_155 : ∀ pc, pc < 24 → (!(Nat.beq (am_t155 pc).2.1 0) || am_isNop (am_t155 pc).1) = true := by decide +kernel
theorem am_z_155 : am_zP 155 := am_zq_155
theorem am_zq_156 : ∀ pc, pc < 763 → (!(Nat.beq (am_t156 pc).2.1 0) || am_isNop (am_t156 pc).1) = true := by decide +kernel
theorem am_z_156 : am_zP 156 := am_zq_156
theorem am_zq_157 : ∀ pc, pc < 16 → (!(Nat.beq (am_t157 pc).2.1 0) || am_isNop (am_t157 pc).1) = true := by decide +kernel
theorem am_z_157 : am_zP 157 := am_zq_157
theorem am_zq_158 : ∀ pc, pc < 40 → (!(Nat.beq (am_t158 pc).2.1 0) || am_isNop (am_t158 pc).1) = true := by decide +kernel
theorem am_z_158 : am_zP 158 := am_zq_158
theorem am_zq_159 : ∀ pc, pc < 51 → (!(Nat.beq (am_t159 pc).2.1 0) || am_isNop (am_t159 pc).1) = true := by decide +kernel
theorem am_z_159 : am_zP 159 := am_zq_159
theorem am_zq_160 : ∀ pc, pc < 33 → (!(Nat.beq (am_t160 pc).2.1 0) || am_isNop (am_t160 pc).1) = true := by decide +kernel
theorem am_z_160 : am_zP 160 := am_zq_160
theorem am_zq_161 : ∀ pc, pc < 19 → (!(Nat.beq (am_t161 pc).2.1 0) || am_isNop (am_t161 pc).1) = true := by decide +kernel
theorem am_z_161 : am_zP 161 := am_zq_161
theorem am_zq_162 : ∀ pc, pc < 18 → (!(Nat.beq (am_t162 pc).2.1 0) || am_isNop (am_t162 pc).1) = true := by decide +kernel
theorem am_z_162 : am_zP 162 := am_zq_162
theorem am_zq_163 : ∀ pc, pc < 18 → (!(Nat.beq (am_t163 pc).2.1 0) || am_isNop (am_t163 pc).1) = true := by decide +kernel
theorem am_z_163 : am_zP 163 := am_zq_163
theorem am_zq_164 : ∀ pc, pc < 329 → (!(Nat.beq (am_t164 pc).2.1 0) || am_isNop (am_t164 pc).1) = true := by decide +kernel
theorem am_z_164 : am_zP 164 := am_zq_164
theorem am_zq_165 : ∀ pc, pc < 22 → (!(Nat.beq (am_t165 pc).2.1 0) || am_isNop (am_t165 pc).1) = true := by decide +kernel
theorem am_z_165 : am_zP 165 := am_zq_165
theorem am_zq_166 : ∀ pc, pc < 23 → (!(Nat.beq (am_t166 pc).2.1 0) || am_isNop (am_t166 pc).1) = true := by decide +kernel
theorem am_z_166 : am_zP 166 := am_zq_166
theorem am_zq_167 : ∀ pc, pc < 29 → (!(Nat.beq (am_t167 pc).2.1 0) || am_isNop (am_t167 pc).1) = true := by decide +kernel
theorem am_z_167 : am_zP 167 := am_zq_167
theorem am_zq_168 : ∀ pc, pc < 272 → (!(Nat.beq (am_t168 pc).2.1 0) || am_isNop (am_t168 pc).1) = true := by decide +kernel
theorem am_z_168 : am_zP 168 := am_zq_168
theorem am_zq_169 : ∀ pc, pc < 62 → (!(Nat.beq (am_t169 pc).2.1 0) || am_isNop (am_t169 pc).1) = true := by decide +kernel
theorem am_z_169 : am_zP 169 := am_zq_169
theorem am_zq_170 : ∀ pc, pc < 91 → (!(Nat.beq (am_t170 pc).2.1 0) || am_isNop (am_t170 pc).1) = true := by decide +kernel
theorem am_z_170 : am_zP 170 := am_zq_170
theorem am_zq_171 : ∀ pc, pc < 44 → (!(Nat.beq (am_t171 pc).2.1 0) || am_isNop (am_t171 pc).1) = true := by decide +kernel
theorem am_z_171 : am_zP 171 := am_zq_171
theorem am_zq_172 : ∀ pc, pc < 72 → (!(Nat.beq (am_t172 pc).2.1 0) || am_isNop (am_t172 pc).1) = true := by decide +kernel
theorem am_z_172 : am_zP 172 := am_zq_172
theorem am_zq_173 : ∀ pc, pc < 49 → (!(Nat.beq (am_t173 pc).2.1 0) || am_isNop (am_t173 pc).1) = true := by decide +kernel
theorem am_z_173 : am_zP 173 := am_zq_173
theorem am_zq_174 : ∀ pc, pc < 71 → (!(Nat.beq (am_t174 pc).2.1 0) || am_isNop (am_t174 pc).1) = true := by decide +kernel
theorem am_z_174 : am_zP 174 := am_zq_174
theorem am_zq_175 : ∀ pc, pc < 64 → (!(Nat.beq (am_t175 pc).2.1 0) || am_isNop (am_t175 pc).1) = true := by decide +kernel
theorem am_z_175 : am_zP 175 := am_zq_175
theorem am_zq_176 : ∀ pc, pc < 21 → (!(Nat.beq (am_t176 pc).2.1 0) || am_isNop (am_t176 pc).1) = true := by decide +kernel
theorem am_z_176 : am_zP 176 := am_zq_176
theorem am_zq_177 : ∀ pc, pc < 54 → (!(Nat.beq (am_t177 pc).2.1 0) || am_isNop (am_t177 pc).1) = true := by decide +kernel
theorem am_z_177 : am_zP 177 := am_zq_177
theorem am_zq_178 : ∀ pc, pc < 46 → (!(Nat.beq (am_t178 pc).2.1 0) || am_isNop (am_t178 pc).1) = true := by decide +kernel
theorem am_z_178 : am_zP 178 := am_zq_178
theorem am_zq_179 : ∀ pc, pc < 16 → (!(Nat.beq (am_t179 pc).2.1 0) || am_isNop (am_t179 pc).1) = true := by decide +kernel
theorem am_z_179 : am_zP 179 := am_zq_179
theorem am_zq_180 : ∀ pc, pc < 345 → (!(Nat.beq (am_t180 pc).2.1 0) || am_isNop (am_t180 pc).1) = true := by decide +kernel
theorem am_z_180 : am_zP 180 := am_zq_180
theorem am_zq_181 : ∀ pc, pc < 584 → (!(Nat.beq (am_t181 pc).2.1 0) || am_isNop (am_t181 pc).1) = true := by decide +kernel
theorem am_z_181 : am_zP 181 := am_zq_181
theorem am_zq_182 : ∀ pc, pc < 91 → (!(Nat.beq (am_t182 pc).2.1 0) || am_isNop (am_t182 pc).1) = true := by decide +kernel
theorem am_z_182 : am_zP 182 := am_zq_182
theorem am_zq_183 : ∀ pc, pc < 44 → (!(Nat.beq (am_t183 pc).2.1 0) || am_isNop (am_t183 pc).1) = true := by decide +kernel
theorem am_z_183 : am_zP 183 := am_zq_183
theorem am_zq_184 : ∀ pc, pc < 37 → (!(Nat.beq (am_t184 pc).2.1 0) || am_isNop (am_t184 pc).1) = true := by decide +kernel
theorem am_z_184 : am_zP 184 := am_zq_184
theorem am_zq_185 : ∀ pc, pc < 97 → (!(Nat.beq (am_t185 pc).2.1 0) || am_isNop (am_t185 pc).1) = true := by decide +kernel
theorem am_z_185 : am_zP 185 := am_zq_185
theorem am_zq_186 : ∀ pc, pc < 103 → (!(Nat.beq (am_t186 pc).2.1 0) || am_isNop (am_t186 pc).1) = true := by decide +kernel
theorem am_z_186 : am_zP 186 := am_zq_186
theorem am_zq_187 : ∀ pc, pc < 123 → (!(Nat.beq (am_t187 pc).2.1 0) || am_isNop (am_t187 pc).1) = true := by decide +kernel
theorem am_z_187 : am_zP 187 := am_zq_187
theorem am_zq_188 : ∀ pc, pc < 134 → (!(Nat.beq (am_t188 pc).2.1 0) || am_isNop (am_t188 pc).1) = true := by decide +kernel
theorem am_z_188 : am_zP 188 := am_zq_188
theorem am_zq_189 : ∀ pc, pc < 191 → (!(Nat.beq (am_t189 pc).2.1 0) || am_isNop (am_t189 pc).1) = true := by decide +kernel
theorem am_z_189 : am_zP 189 := am_zq_189
theorem am_zq_190 : ∀ pc, pc < 55 → (!(Nat.beq (am_t190 pc).2.1 0) || am_isNop (am_t190 pc).1) = true := by decide +kernel
theorem am_z_190 : am_zP 190 := am_zq_190
theorem am_zq_191 : ∀ pc, pc < 174 → (!(Nat.beq (am_t191 pc).2.1 0) || am_isNop (am_t191 pc).1) = true := by decide +kernel
theorem am_z_191 : am_zP 191 := am_zq_191
theorem am_zq_192 : ∀ pc, pc < 137 → (!(Nat.beq (am_t192 pc).2.1 0) || am_isNop (am_t192 pc).1) = true := by decide +kernel
theorem am_z_192 : am_zP 192 := am_zq_192
theorem am_zq_193 : ∀ pc, pc < 72 → (!(Nat.beq (am_t193 pc).2.1 0) || am_isNop (am_t193 pc).1) = true := by decide +kernel
theorem am_z_193 : am_zP 193 := am_zq_193
theorem am_zq_194 : ∀ pc, pc < 114 → (!(Nat.beq (am_t194 pc).2.1 0) || am_isNop (am_t194 pc).1) = true := by decide +kernel
theorem am_z_194 : am_zP 194 := am_zq_194
theorem am_zq_195 : ∀ pc, pc < 111 → (!(Nat.beq (am_t195 pc).2.1 0) || am_isNop (am_t195 pc).1) = true := by decide +kernel
theorem am_z_195 : am_zP 195 := am_zq_195
theorem am_zq_196 : ∀ pc, pc < 62 → (!(Nat.beq (am_t196 pc).2.1 0) || am_isNop (am_t196 pc).1) = true := by decide +kernel
theorem am_z_196 : am_zP 196 := am_zq_196
theorem am_zq_197 : ∀ pc, pc < 56 → (!(Nat.beq (am_t197 pc).2.1 0) || am_isNop (am_t197 pc).1) = true := by decide +kernel
theorem am_z_197 : am_zP 197 := am_zq_197
theorem am_zq_198 : ∀ pc, pc < 105 → (!(Nat.beq (am_t198 pc).2.1 0) || am_isNop (am_t198 pc).1) = true := by decide +kernel
theorem am_z_198 : am_zP 198 := am_zq_198
theorem am_zq_199 : ∀ pc, pc < 120 → (!(Nat.beq (am_t199 pc).2.1 0) || am_isNop (am_t199 pc).1) = true := by decide +kernel
theorem am_z_199 : am_zP 199 := am_zq_199
theorem am_zq_200 : ∀ pc, pc < 95 → (!(Nat.beq (am_t200 pc).2.1 0) || am_isNop (am_t200 pc).1) = true := by decide +kernel
theorem am_z_200 : am_zP 200 := am_zq_200
theorem am_zq_201 : ∀ pc, pc < 249 → (!(Nat.beq (am_t201 pc).2.1 0) || am_isNop (am_t201 pc).1) = true := by decide +kernel
theorem am_z_201 : am_zP 201 := am_zq_201
theorem am_zq_202 : ∀ pc, pc < 25 → (!(Nat.beq (am_t202 pc).2.1 0) || am_isNop (am_t202 pc).1) = true := by decide +kernel
theorem am_z_202 : am_zP 202 := am_zq_202
theorem am_zq_203 : ∀ pc, pc < 12 → (!(Nat.beq (am_t203 pc).2.1 0) || am_isNop (am_t203 pc).1) = true := by decide +kernel
theorem am_z_203 : am_zP 203 := am_zq_203
theorem am_zq_204 : ∀ pc, pc < 20 → (!(Nat.beq (am_t204 pc).2.1 0) || am_isNop (am_t204 pc).1) = true := by decide +kernel
theorem am_z_204 : am_zP 204 := am_zq_204
theorem am_zq_205 : ∀ pc, pc < 30 → (!(Nat.beq (am_t205 pc).2.1 0) || am_isNop (am_t205 pc).1) = true := by decide +kernel
theorem am_z_205 : am_zP 205 := am_zq_205
theorem am_zq_206 : ∀ pc, pc < 56 → (!(Nat.beq (am_t206 pc).2.1 0) || am_isNop (am_t206 pc).1) = true := by decide +kernel
theorem am_z_206 : am_zP 206 := am_zq_206
theorem am_zq_207 : ∀ pc, pc < 185 → (!(Nat.beq (am_t207 pc).2.1 0) || am_isNop (am_t207 pc).1) = true := by decide +kernel
theorem am_z_207 : am_zP 207 := am_zq_207
theorem am_zq_208 : ∀ pc, pc < 163 → (!(Nat.beq (am_t208 pc).2.1 0) || am_isNop (am_t208 pc).1) = true := by decide +kernel
theorem am_z_208 : am_zP 208 := am_zq_208
theorem am_zq_209 : ∀ pc, pc < 108 → (!(Nat.beq (am_t209 pc).2.1 0) || am_isNop (am_t209 pc).1) = true := by decide +kernel
theorem am_z_209 : am_zP 209 := am_zq_209
theorem am_zq_210 : ∀ pc, pc < 17 → (!(Nat.beq (am_t210 pc).2.1 0) || am_isNop (am_t210 pc).1) = true := by decide +kernel
theorem am_z_210 : am_zP 210 := am_zq_210
theorem am_zq_211 : ∀ pc, pc < 12 → (!(Nat.beq (am_t211 pc).2.1 0) || am_isNop (am_t211 pc).1) = true := by decide +kernel
theorem am_z_211 : am_zP 211 := am_zq_211
theorem am_zq_212 : ∀ pc, pc < 12 → (!(Nat.beq (am_t212 pc).2.1 0) || am_isNop (am_t212 pc).1) = true := by decide +kernel
theorem am_z_212 : am_zP 212 := am_zq_212
theorem am_zq_213 : ∀ pc, pc < 12 → (!(Nat.beq (am_t213 pc).2.1 0) || am_isNop (am_t213 pc).1) = true := by decide +kernel
theorem am_z_213 : am_zP 213 := am_zq_213
theorem am_zq_214 : ∀ pc, pc < 10 → (!(Nat.beq (am_t214 pc).2.1 0) || am_isNop (am_t214 pc).1) = true := by decide +kernel
theorem am_z_214 : am_zP 214 := am_zq_214
theorem am_zq_215 : ∀ pc, pc < 10 → (!(Nat.beq (am_t215 pc).2.1 0) || am_isNop (am_t215 pc).1) = true := by decide +kernel
theorem am_z_215 : am_zP 215 := am_zq_215
theorem am_zq_216 : ∀ pc, pc < 10 → (!(Nat.beq (am_t216 pc).2.1 0) || am_isNop (am_t216 pc).1) = true := by decide +kernel
theorem am_z_216 : am_zP 216 := am_zq_216
theorem am_zq_217 : ∀ pc, pc < 10 → (!(Nat.beq (am_t217 pc).2.1 0) || am_isNop (am_t217 pc).1) = true := by decide +kernel
theorem am_z_217 : am_zP 217 := am_zq_217
theorem am_zq_218 : ∀ pc, pc < 10 → (!(Nat.beq (am_t218 pc).2.1 0) || am_isNop (am_t218 pc).1) = true := by decide +kernel
theorem am_z_218 : am_zP 218 := am_zq_218
theorem am_zq_219 : ∀ pc, pc < 12 → (!(Nat.beq (am_t219 pc).2.1 0) || am_isNop (am_t219 pc).1) = true := by decide +kernel
theorem am_z_219 : am_zP 219 := am_zq_219
theorem am_zq_220 : ∀ pc, pc < 39 → (!(Nat.beq (am_t220 pc).2.1 0) || am_isNop (am_t220 pc).1) = true := by decide +kernel
theorem am_z_220 : am_zP 220 := am_zq_220
theorem am_zq_221 : ∀ pc, pc < 161 → (!(Nat.beq (am_t221 pc).2.1 0) || am_isNop (am_t221 pc).1) = true := by decide +kernel
theorem am_z_221 : am_zP 221 := am_zq_221
theorem am_zq_222 : ∀ pc, pc < 91 → (!(Nat.beq (am_t222 pc).2.1 0) || am_isNop (am_t222 pc).1) = true := by decide +kernel
theorem am_z_222 : am_zP 222 := am_zq_222
theorem am_zq_223 : ∀ pc, pc < 47 → (!(Nat.beq (am_t223 pc).2.1 0) || am_isNop (am_t223 pc).1) = true := by decide +kernel
theorem am_z_223 : am_zP 223 := am_zq_223
theorem am_zq_224 : ∀ pc, pc < 25 → (!(Nat.beq (am_t224 pc).2.1 0) || am_isNop (am_t224 pc).1) = true := by decide +kernel
theorem am_z_224 : am_zP 224 := am_zq_224
theorem am_zq_225 : ∀ pc, pc < 29 → (!(Nat.beq (am_t225 pc).2.1 0) || am_isNop (am_t225 pc).1) = true := by decide +kernel
theorem am_z_225 : am_zP 225 := am_zq_225
theorem am_zq_226 : ∀ pc, pc < 210 → (!(Nat.beq (am_t226 pc).2.1 0) || am_isNop (am_t226 pc).1) = true := by decide +kernel
theorem am_z_226 : am_zP 226 := am_zq_226
theorem am_zq_227 : ∀ pc, pc < 81 → (!(Nat.beq (am_t227 pc).2.1 0) || am_isNop (am_t227 pc).1) = true := by decide +kernel
theorem am_z_227 : am_zP 227 := am_zq_227
theorem am_zq_228 : ∀ pc, pc < 140 → (!(Nat.beq (am_t228 pc).2.1 0) || am_isNop (am_t228 pc).1) = true := by decide +kernel
theorem am_z_228 : am_zP 228 := am_zq_228
theorem am_zq_229 : ∀ pc, pc < 147 → (!(Nat.beq (am_t229 pc).2.1 0) || am_isNop (am_t229 pc).1) = true := by decide +kernel
theorem am_z_229 : am_zP 229 := am_zq_229
theorem am_zq_230 : ∀ pc, pc < 71 → (!(Nat.beq (am_t230 pc).2.1 0) || am_isNop (am_t230 pc).1) = true := by decide +kernel
theorem am_z_230 : am_zP 230 := am_zq_230
theorem am_zq_231 : ∀ pc, pc < 35 → (!(Nat.beq (am_t231 pc).2.1 0) || am_isNop (am_t231 pc).1) = true := by decide +kernel
theorem am_z_231 : am_zP 231 := am_zq_231
theorem am_zq_232 : ∀ pc, pc < 77 → (!(Nat.beq (am_t232 pc).2.1 0) || am_isNop (am_t232 pc).1) = true := by decide +kernel
theorem am_z_232 : am_zP 232 := am_zq_232
theorem am_zq_233 : ∀ pc, pc < 85 → (!(Nat.beq (am_t233 pc).2.1 0) || am_isNop (am_t233 pc).1) = true := by decide +kernel
theorem am_z_233 : am_zP 233 := am_zq_233
theorem am_zq_234 : ∀ pc, pc < 164 → (!(Nat.beq (am_t234 pc).2.1 0) || am_isNop (am_t234 pc).1) = true := by decide +kernel
theorem am_z_234 : am_zP 234 := am_zq_234
theorem am_zq_235 : ∀ pc, pc < 56 → (!(Nat.beq (am_t235 pc).2.1 0) || am_isNop (am_t235 pc).1) = true := by decide +kernel
theorem am_z_235 : am_zP 235 := am_zq_235
theorem am_zq_236 : ∀ pc, pc < 89 → (!(Nat.beq (am_t236 pc).2.1 0) || am_isNop (am_t236 pc).1) = true := by decide +kernel
theorem am_z_236 : am_zP 236 := am_zq_236
theorem am_zq_237 : ∀ pc, pc < 98 → (!(Nat.beq (am_t237 pc).2.1 0) || am_isNop (am_t237 pc).1) = true := by decide +kernel
theorem am_z_237 : am_zP 237 := am_zq_237
theorem am_zq_238 : ∀ pc, pc < 45 → (!(Nat.beq (am_t238 pc).2.1 0) || am_isNop (am_t238 pc).1) = true := by decide +kernel
theorem am_z_238 : am_zP 238 := am_zq_238
theorem am_zq_239 : ∀ pc, pc < 370 → (!(Nat.beq (am_t239 pc).2.1 0) || am_isNop (am_t239 pc).1) = true := by decide +kernel
theorem am_z_239 : am_zP 239 := am_zq_239
theorem am_zq_240 : ∀ pc, pc < 31 → (!(Nat.beq (am_t240 pc).2.1 0) || am_isNop (am_t240 pc).1) = true := by decide +kernel
theorem am_z_240 : am_zP 240 := am_zq_240
theorem am_zq_241 : ∀ pc, pc < 70 → (!(Nat.beq (am_t241 pc).2.1 0) || am_isNop (am_t241 pc).1) = true := by decide +kernel
theorem am_z_241 : am_zP 241 := am_zq_241
theorem am_zq_242 : ∀ pc, pc < 126 → (!(Nat.beq (am_t242 pc).2.1 0) || am_isNop (am_t242 pc).1) = true := by decide +kernel
theorem am_z_242 : am_zP 242 := am_zq_242
theorem am_zq_243 : ∀ pc, pc < 108 → (!(Nat.beq (am_t243 pc).2.1 0) || am_isNop (am_t243 pc).1) = true := by decide +kernel
theorem am_z_243 : am_zP 243 := am_zq_243
theorem am_zq_244 : ∀ pc, pc < 34 → (!(Nat.beq (am_t244 pc).2.1 0) || am_isNop (am_t244 pc).1) = true := by decide +kernel
theorem am_z_244 : am_zP 244 := am_zq_244
theorem am_zq_245 : ∀ pc, pc < 58 → (!(Nat.beq (am_t245 pc).2.1 0) || am_isNop (am_t245 pc).1) = true := by decide +kernel
theorem am_z_245 : am_zP 245 := am_zq_245
theorem am_zq_246 : ∀ pc, pc < 50 → (!(Nat.beq (am_t246 pc).2.1 0) || am_isNop (am_t246 pc).1) = true := by decide +kernel
theorem am_z_246 : am_zP 246 := am_zq_246
theorem am_zq_247 : ∀ pc, pc < 53 → (!(Nat.beq (am_t247 pc).2.1 0) || am_isNop (am_t247 pc).1) = true := by decide +kernel
theorem am_z_247 : am_zP 247 := am_zq_247
theorem am_zq_248 : ∀ pc, pc < 52 → (!(Nat.beq (am_t248 pc).2.1 0) || am_isNop (am_t248 pc).1) = true := by decide +kernel
theorem am_z_248 : am_zP 248 := am_zq_248
theorem am_zq_249 : ∀ pc, pc < 48 → (!(Nat.beq (am_t249 pc).2.1 0) || am_isNop (am_t249 pc).1) = true := by decide +kernel
theorem am_z_249 : am_zP 249 := am_zq_249
theorem am_zq_250 : ∀ pc, pc < 66 → (!(Nat.beq (am_t250 pc).2.1 0) || am_isNop (am_t250 pc).1) = true := by decide +kernel
theorem am_z_250 : am_zP 250 := am_zq_250
theorem am_zq_251 : ∀ pc, pc < 135 → (!(Nat.beq (am_t251 pc).2.1 0) || am_isNop (am_t251 pc).1) = true := by decide +kernel
theorem am_z_251 : am_zP 251 := am_zq_251
theorem am_zq_252 : ∀ pc, pc < 19 → (!(Nat.beq (am_t252 pc).2.1 0) || am_isNop (am_t252 pc).1) = true := by decide +kernel
theorem am_z_252 : am_zP 252 := am_zq_252
theorem am_zq_253 : ∀ pc, pc < 72 → (!(Nat.beq (am_t253 pc).2.1 0) || am_isNop (am_t253 pc).1) = true := by decide +kernel
theorem am_z_253 : am_zP 253 := am_zq_253
theorem am_zq_254 : ∀ pc, pc < 19 → (!(Nat.beq (am_t254 pc).2.1 0) || am_isNop (am_t254 pc).1) = true := by decide +kernel
theorem am_z_254 : am_zP 254 := am_zq_254
theorem am_zq_255 : ∀ pc, pc < 60 → (!(Nat.beq (am_t255 pc).2.1 0) || am_isNop (am_t255 pc).1) = true := by decide +kernel
theorem am_z_255 : am_zP 255 := am_zq_255
theorem am_zq_256 : ∀ pc, pc < 63 → (!(Nat.beq (am_t256 pc).2.1 0) || am_isNop (am_t256 pc).1) = true := by decide +kernel
theorem am_z_256 : am_zP 256 := am_zq_256
theorem am_zq_257 : ∀ pc, pc < 68 → (!(Nat.beq (am_t257 pc).2.1 0) || am_isNop (am_t257 pc).1) = true := by decide +kernel
theorem am_z_257 : am_zP 257 := am_zq_257
theorem am_zq_258 : ∀ pc, pc < 18 → (!(Nat.beq (am_t258 pc).2.1 0) || am_isNop (am_t258 pc).1) = true := by decide +kernel
theorem am_z_258 : am_zP 258 := am_zq_258
theorem am_zq_259 : ∀ pc, pc < 43 → (!(Nat.beq (am_t259 pc).2.1 0) || am_isNop (am_t259 pc).1) = true := by decide +kernel
theorem am_z_259 : am_zP 259 := am_zq_259
theorem am_zq_260 : ∀ pc, pc < 347 → (!(Nat.beq (am_t260 pc).2.1 0) || am_isNop (am_t260 pc).1) = true := by decide +kernel
theorem am_z_260 : am_zP 260 := am_zq_260
theorem am_zq_261 : ∀ pc, pc < 5 → (!(Nat.beq (am_t261 pc).2.1 0) || am_isNop (am_t261 pc).1) = true := by decide +kernel
theorem am_z_261 : am_zP 261 := am_zq_261
theorem am_zq_262 : ∀ pc, pc < 40 → (!(Nat.beq (am_t262 pc).2.1 0) || am_isNop (am_t262 pc).1) = true := by decide +kernel
theorem am_z_262 : am_zP 262 := am_zq_262
theorem am_zq_263 : ∀ pc, pc < 154 → (!(Nat.beq (am_t263 pc).2.1 0) || am_isNop (am_t263 pc).1) = true := by decide +kernel
theorem am_z_263 : am_zP 263 := am_zq_263
theorem am_zq_264 : ∀ pc, pc < 92 → (!(Nat.beq (am_t264 pc).2.1 0) || am_isNop (am_t264 pc).1) = true := by decide +kernel
theorem am_z_264 : am_zP 264 := am_zq_264
theorem am_zq_265 : ∀ pc, pc < 105 → (!(Nat.beq (am_t265 pc).2.1 0) || am_isNop (am_t265 pc).1) = true := by decide +kernel
theorem am_z_265 : am_zP 265 := am_zq_265
theorem am_zq_266 : ∀ pc, pc < 177 → (!(Nat.beq (am_t266 pc).2.1 0) || am_isNop (am_t266 pc).1) = true := by decide +kernel
theorem am_z_266 : am_zP 266 := am_zq_266
theorem am_zq_267 : ∀ pc, pc < 177 → (!(Nat.beq (am_t267 pc).2.1 0) || am_isNop (am_t267 pc).1) = true := by decide +kernel
theorem am_z_267 : am_zP 267 := am_zq_267
theorem am_zq_268 : ∀ pc, pc < 165 → (!(Nat.beq (am_t268 pc).2.1 0) || am_isNop (am_t268 pc).1) = true := by decide +kernel
theorem am_z_268 : am_zP 268 := am_zq_268
theorem am_zq_269 : ∀ pc, pc < 22 → (!(Nat.beq (am_t269 pc).2.1 0) || am_isNop (am_t269 pc).1) = true := by decide +kernel
theorem am_z_269 : am_zP 269 := am_zq_269
theorem am_zq_270 : ∀ pc, pc < 63 → (!(Nat.beq (am_t270 pc).2.1 0) || am_isNop (am_t270 pc).1) = true := by decide +kernel
theorem am_z_270 : am_zP 270 := am_zq_270
theorem am_zq_271 : ∀ pc, pc < 17 → (!(Nat.beq (am_t271 pc).2.1 0) || am_isNop (am_t271 pc).1) = true := by decide +kernel
theorem am_z_271 : am_zP 271 := am_zq_271
theorem am_zq_272 : ∀ pc, pc < 57 → (!(Nat.beq (am_t272 pc).2.1 0) || am_isNop (am_t272 pc).1) = true := by decide +kernel
theorem am_z_272 : am_zP 272 := am_zq_272
theorem am_zq_273 : ∀ pc, pc < 64 → (!(Nat.beq (am_t273 pc).2.1 0) || am_isNop (am_t273 pc).1) = true := by decide +kernel
theorem am_z_273 : am_zP 273 := am_zq_273
theorem am_zq_274 : ∀ pc, pc < 86 → (!(Nat.beq (am_t274 pc).2.1 0) || am_isNop (am_t274 pc).1) = true := by decide +kernel
theorem am_z_274 : am_zP 274 := am_zq_274
theorem am_zq_275 : ∀ pc, pc < 88 → (!(Nat.beq (am_t275 pc).2.1 0) || am_isNop (am_t275 pc).1) = true := by decide +kernel
theorem am_z_275 : am_zP 275 := am_zq_275
theorem am_zq_276 : ∀ pc, pc < 39 → (!(Nat.beq (am_t276 pc).2.1 0) || am_isNop (am_t276 pc).1) = true := by decide +kernel
theorem am_z_276 : am_zP 276 := am_zq_276
theorem am_zq_277 : ∀ pc, pc < 29 → (!(Nat.beq (am_t277 pc).2.1 0) || am_isNop (am_t277 pc).1) = true := by decide +kernel
theorem am_z_277 : am_zP 277 := am_zq_277
theorem am_zq_278 : ∀ pc, pc < 18 → (!(Nat.beq (am_t278 pc).2.1 0) || am_isNop (am_t278 pc).1) = true := by decide +kernel
theorem am_z_278 : am_zP 278 := am_zq_278
theorem am_zq_279 : ∀ pc, pc < 75 → (!(Nat.beq (am_t279 pc).2.1 0) || am_isNop (am_t279 pc).1) = true := by decide +kernel
theorem am_z_279 : am_zP 279 := am_zq_279
theorem am_zq_280 : ∀ pc, pc < 78 → (!(Nat.beq (am_t280 pc).2.1 0) || am_isNop (am_t280 pc).1) = true := by decide +kernel
theorem am_z_280 : am_zP 280 := am_zq_280
theorem am_zq_281 : ∀ pc, pc < 129 → (!(Nat.beq (am_t281 pc).2.1 0) || am_isNop (am_t281 pc).1) = true := by decide +kernel
theorem am_z_281 : am_zP 281 := am_zq_281
theorem am_zq_282 : ∀ pc, pc < 50 → (!(Nat.beq (am_t282 pc).2.1 0) || am_isNop (am_t282 pc).1) = true := by decide +kernel
theorem am_z_282 : am_zP 282 := am_zq_282
theorem am_zq_283 : ∀ pc, pc < 25 → (!(Nat.beq (am_t283 pc).2.1 0) || am_isNop (am_t283 pc).1) = true := by decide +kernel
theorem am_z_283 : am_zP 283 := am_zq_283
theorem am_zq_284 : ∀ pc, pc < 148 → (!(Nat.beq (am_t284 pc).2.1 0) || am_isNop (am_t284 pc).1) = true := by decide +kernel
theorem am_z_284 : am_zP 284 := am_zq_284
theorem am_zq_285 : ∀ pc, pc < 23 → (!(Nat.beq (am_t285 pc).2.1 0) || am_isNop (am_t285 pc).1) = true := by decide +kernel
theorem am_z_285 : am_zP 285 := am_zq_285
theorem am_zq_286 : ∀ pc, pc < 23 → (!(Nat.beq (am_t286 pc).2.1 0) || am_isNop (am_t286 pc).1) = true := by decide +kernel
theorem am_z_286 : am_zP 286 := am_zq_286
theorem am_zq_287 : ∀ pc, pc < 20 → (!(Nat.beq (am_t287 pc).2.1 0) || am_isNop (am_t287 pc).1) = true := by decide +kernel
theorem am_z_287 : am_zP 287 := am_zq_287
theorem am_zq_288 : ∀ pc, pc < 11 → (!(Nat.beq (am_t288 pc).2.1 0) || am_isNop (am_t288 pc).1) = true := by decide +kernel
theorem am_z_288 : am_zP 288 := am_zq_288
theorem am_zq_289 : ∀ pc, pc < 12 → (!(Nat.beq (am_t289 pc).2.1 0) || am_isNop (am_t289 pc).1) = true := by decide +kernel
theorem am_z_289 : am_zP 289 := am_zq_289
theorem am_zq_290 : ∀ pc, pc < 11 → (!(Nat.beq (am_t290 pc).2.1 0) || am_isNop (am_t290 pc).1) = true := by decide +kernel
theorem am_z_290 : am_zP 290 := am_zq_290
theorem am_zq_291 : ∀ pc, pc < 12 → (!(Nat.beq (am_t291 pc).2.1 0) || am_isNop (am_t291 pc).1) = true := by decide +kernel
theorem am_z_291 : am_zP 291 := am_zq_291
theorem am_zq_292 : ∀ pc, pc < 21 → (!(Nat.beq (am_t292 pc).2.1 0) || am_isNop (am_t292 pc).1) = true := by decide +kernel
theorem am_z_292 : am_zP 292 := am_zq_292
set_option maxRecDepth 100000 in
theorem am_zb_0 : ∀ i, i < 50 → am_zP (0 + i) := (lt_s (p := fun i => am_zP (0 + i)) (lt_s (p := fun i => am_zP (0 + i)) (lt_s (p := fun i => am_zP (0 + i)) (lt_s (p := fun i => am_zP (0 + i)) (lt_s (p := fun i => am_zP (0 + i)) (lt_s (p := fun i => am_zP (0 + i)) (lt_s (p := fun i => am_zP (0 + i)) (lt_s (p := fun i => am_zP (0 + i)) (lt_s (p := fun i => am_zP (0 + i)) (lt_s (p := fun i => am_zP (0 + i)) (lt_s (p := fun i => am_zP (0 + i)) (lt_s (p := fun i => am_zP (0 + i)) (lt_s (p := fun i => am_zP (0 + i)) (lt_s (p := fun i => am_zP (0 + i)) (lt_s (p := fun i => am_zP (0 + i)) (lt_s (p := fun i => am_zP (0 + i)) (lt_s (p := fun i => am_zP (0 + i)) (lt_s (p := fun i => am_zP (0 + i)) (lt_s (p := fun i => am_zP (0 + i)) (lt_s (p := fun i => am_zP (0 + i)) (lt_s (p := fun i => am_zP (0 + i)) (lt_s (p := fun i => am_zP (0 + i)) (lt_s (p := fun i => am_zP (0 + i)) (lt_s (p := fun i => am_zP (0 + i)) (lt_s (p := fun i => am_zP (0 + i)) (lt_s (p := fun i => am_zP (0 + i)) (lt_s (p := fun i => am_zP (0 + i)) (lt_s (p := fun i => am_zP (0 + i)) (lt_s (p := fun i => am_zP (0 + i)) (lt_s (p := fun i => am_zP (0 + i)) (lt_s (p := fun i => am_zP (0 + i)) (lt_s (p := fun i => am_zP (0 + i)) (lt_s (p := fun i => am_zP (0 + i)) (lt_s (p := fun i => am_zP (0 + i)) (lt_s (p := fun i => am_zP (0 + i)) (lt_s (p := fun i => am_zP (0 + i)) (lt_s (p := fun i => am_zP (0 + i)) (lt_s (p := fun i => am_zP (0 + i)) (lt_s (p := fun i => am_zP (0 + i)) (lt_s (p := fun i => am_zP (0 + i)) (lt_s (p := fun i => am_zP (0 + i)) (lt_s (p := fun i => am_zP (0 + i)) (lt_s (p := fun i => am_zP (0 + i)) (lt_s (p := fun i => am_zP (0 + i)) (lt_s (p := fun i => am_zP (0 + i)) (lt_s (p := fun i => am_zP (0 + i)) (lt_s (p := fun i => am_zP (0 + i)) (lt_s (p := fun i => am_zP (0 + i)) (lt_s (p := fun i => am_zP (0 + i)) (lt_s (p := fun i => am_zP (0 + i)) lt_0 am_z_0) am_z_1) am_z_2) am_z_3) am_z_4) am_z_5) am_z_6) am_z_7) am_z_8) am_z_9) am_z_10) am_z_11) am_z_12) am_z_13) am_z_14) am_z_15) am_z_16) am_z_17) am_z_18) am_z_19) am_z_20) am_z_21) am_z_22) am_z_23) am_z_24) am_z_25) am_z_26) am_z_27) am_z_28) am_z_29) am_z_30) am_z_31) am_z_32) am_z_33) am_z_34) am_z_35) am_z_36) am_z_37) am_z_38) am_z_39) am_z_40) am_z_41) am_z_42) am_z_43) am_z_44) am_z_45) am_z_46) am_z_47) am_z_48) am_z_49)
set_option maxRecDepth 100000 in
theorem am_zb_50 : ∀ i, i < 50 → am_zP (50 + i) := (lt_s (p := fun i => am_zP (50 + i)) (lt_s (p := fun i => am_zP (50 + i)) (lt_s (p := fun i => am_zP (50 + i)) (lt_s (p := fun i => am_zP (50 + i)) (lt_s (p := fun i => am_zP (50 + i)) (lt_s (p := fun i => am_zP (50 + i)) (lt_s (p := fun i => am_zP (50 + i)) (lt_s (p := fun i => am_zP (50 + i)) (lt_s (p := fun i => am_zP (50 + i)) (lt_s (p := fun i => am_zP (50 + i)) (lt_s (p := fun i => am_zP (50 + i)) (lt_s (p := fun i => am_zP (50 + i)) (lt_s (p := fun i => am_zP (50 + i)) (lt_s (p := fun i => am_zP (50 + i)) (lt_s (p := fun i => am_zP (50 + i)) (lt_s (p := fun i => am_zP (50 + i)) (lt_s (p := fun i => am_zP (50 + i)) (lt_s (p := fun i => am_zP (50 + i)) (lt_s (p := fun i => am_zP (50 + i)) (lt_s (p := fun i => am_zP (50 + i)) (lt_s (p := fun i => am_zP (50 + i)) (lt_s (p := fun i => am_zP (50 + i)) (lt_s (p := fun i => am_zP (50 + i)) (lt_s (p := fun i => am_zP (50 + i)) (lt_s (p := fun i => am_zP (50 + i)) (lt_s (p := fun i => am_zP (50 + i)) (lt_s (p := fun i => am_zP (50 + i)) (lt_s (p := fun i => am_zP (50 + i)) (lt_s (p := fun i => am_zP (50 + i)) (lt_s (p := fun i => am_zP (50 + i)) (lt_s (p := fun i => am_zP (50 + i)) (lt_s (p := fun i => am_zP (50 + i)) (lt_s (p := fun i => am_zP (50 + i)) (lt_s (p := fun i => am_zP (50 + i)) (lt_s (p := fun i => am_zP (50 + i)) (lt_s (p := fun i => am_zP (50 + i)) (lt_s (p := fun i => am_zP (50 + i)) (lt_s (p := fun i => am_zP (50 + i)) (lt_s (p := fun i => am_zP (50 + i)) (lt_s (p := fun i => am_zP (50 + i)) (lt_s (p := fun i => am_zP (50 + i)) (lt_s (p := fun i => am_zP (50 + i)) (lt_s (p := fun i => am_zP (50 + i)) (lt_s (p := fun i => am_zP (50 + i)) (lt_s (p := fun i => am_zP (50 + i)) (lt_s (p := fun i => am_zP (50 + i)) (lt_s (p := fun i => am_zP (50 + i)) (lt_s (p := fun i => am_zP (50 + i)) (lt_s (p := fun i => am_zP (50 + i)) (lt_s (p := fun i => am_zP (50 + i)) lt_0 am_z_50) am_z_51) am_z_52) am_z_53) am_z_54) am_z_55) am_z_56) am_z_57) am_z_58) am_z_59) am_z_60) am_z_61) am_z_62) am_z_63) am_z_64) am_z_65) am_z_66) am_z_67) am_z_68) am_z_69) am_z_70) am_z_71) am_z_72) am_z_73) am_z_74) am_z_75) am_z_76) am_z_77) am_z_78) am_z_79) am_z_80) am_z_81) am_z_82) am_z_83) am_z_84) am_z_85) am_z_86) am_z_87) am_z_88) am_z_89) am_z_90) am_z_91) am_z_92) am_z_93) am_z_94) am_z_95) am_z_96) am_z_97) am_z_98) am_z_99)
set_option maxRecDepth 100000 in
theorem am_zb_100 : ∀ i, i < 50 → am_zP (100 + i) := (lt_s (p := fun i => am_zP (100 + i)) (lt_s (p := fun i => am_zP (100 + i)) (lt_s (p := fun i => am_zP (100 + i)) (lt_s (p := fun i => am_zP (100 + i)) (lt_s (p := fun i => am_zP (100 + i)) (lt_s (p := fun i => am_zP (100 + i)) (lt_s (p := fun i => am_zP (100 + i)) (lt_s (p := fun i => am_zP (100 + i)) (lt_s (p := fun i => am_zP (100 + i)) (lt_s (p := fun i => am_zP (100 + i)) (lt_s (p := fun i => am_zP (100 + i)) (lt_s (p := fun i => am_zP (100 + i)) (lt_s (p := fun i => am_zP (100 + i)) (lt_s (p := fun i => am_zP (100 + i)) (lt_s (p := fun i => am_zP (100 + i)) (lt_s (p := fun i => am_zP (100 + i)) (lt_s (p := fun i => am_zP (100 + i)) (lt_s (p := fun i => am_zP (100 + i)) (lt_s (p := fun i => am_zP (100 + i)) (lt_s (p := fun i => am_zP (100 + i)) (lt_s (p := fun i => am_zP (100 + i)) (lt_s (p := fun i => am_zP (100 + i)) (lt_s (p := fun i => am_zP (100 + i)) (lt_s (p := fun i => am_zP (100 + i)) (lt_s (p := fun i => am_zP (100 + i)) (lt_s (p := fun i => am_zP (100 + i)) (lt_s (p := fun i => am_zP (100 + i)) (lt_s (p := fun i => am_zP (100 + i)) (lt_s (p := fun i => am_zP (100 + i)) (lt_s (p := fun i => am_zP (100 + i)) (lt_s (p := fun i => am_zP (100 + i)) (lt_s (p := fun i => am_zP (100 + i)) (lt_s (p := fun i => am_zP (100 + i)) (lt_s (p := fun i => am_zP (100 + i)) (lt_s (p := fun i => am_zP (100 + i)) (lt_s (p := fun i => am_zP (100 + i)) (lt_s (p := fun i => am_zP (100 + i)) (lt_s (p := fun i => am_zP (100 + i)) (lt_s (p := fun i => am_zP (100 + i)) (lt_s (p := fun i => am_zP (100 + i)) (lt_s (p := fun i => am_zP (100 + i)) (lt_s (p := fun i => am_zP (100 + i)) (lt_s (p := fun i => am_zP (100 + i)) (lt_s (p := fun i => am_zP (100 + i)) (lt_s (p := fun i => am_zP (100 + i)) (lt_s (p := fun i => am_zP (100 + i)) (lt_s (p := fun i => am_zP (100 + i)) (lt_s (p := fun i => am_zP (100 + i)) (lt_s (p := fun i => am_zP (100 + i)) (lt_s (p := fun i => am_zP (100 + i)) lt_0 am_z_100) am_z_101) am_z_102) am_z_103) am_z_104) am_z_105) am_z_106) am_z_107) am_z_108) am_z_109) am_z_110) am_z_111) am_z_112) am_z_113) am_z_114) am_z_115) am_z_116) am_z_117) am_z_118) am_z_119) am_z_120) am_z_121) am_z_122) am_z_123) am_z_124) am_z_125) am_z_126) am_z_127) am_z_128) am_z_129) am_z_130) am_z_131) am_z_132) am_z_133) am_z_134) am_z_135) am_z_136) am_z_137) am_z_138) am_z_139) am_z_140) am_z_141) am_z_142) am_z_143) am_z_144) am_z_145) am_z_146) am_z_147) am_z_148) am_z_149)
set_option maxRecDepth 100000 in
theorem am_zb_150 : ∀ i, i < 50 → am_zP (150 + i) := (lt_s (p := fun i => am_zP (150 + i)) (lt_s (p := fun i => am_zP (150 + i)) (lt_s (p := fun i => am_zP (150 + i)) (lt_s (p := fun i => am_zP (150 + i)) (lt_s (p := fun i => am_zP (150 + i)) (lt_s (p := fun i => am_zP (150 + i)) (lt_s (p := fun i => am_zP (150 + i)) (lt_s (p := fun i => am_zP (150 + i)) (lt_s (p := fun i => am_zP (150 + i)) (lt_s (p := fun i => am_zP (150 + i)) (lt_s (p := fun i => am_zP (150 + i)) (lt_s (p := fun i => am_zP (150 + i)) (lt_s (p := fun i => am_zP (150 + i)) (lt_s (p := fun i => am_zP (150 + i)) (lt_s (p := fun i => am_zP (150 + i)) (lt_s (p := fun i => am_zP (150 + i)) (lt_s (p := fun i => am_zP (150 + i)) (lt_s (p := fun i => am_zP (150 + i)) (lt_s (p := fun i => am_zP (150 + i)) (lt_s (p := fun i => am_zP (150 + i)) (lt_s (p := fun i => am_zP (150 + i)) (lt_s (p := fun i => am_zP (150 + i)) (lt_s (p := fun i => am_zP (150 + i)) (lt_s (p := fun i => am_zP (150 + i)) (lt_s (p := fun i => am_zP (150 + i)) (lt_s (p := fun i => am_zP (150 + i)) (lt_s (p := fun i => am_zP (150 + i)) (lt_s (p := fun i => am_zP (150 + i)) (lt_s (p := fun i => am_zP (150 + i)) (lt_s (p := fun i => am_zP (150 + i)) (lt_s (p := fun i => am_zP (150 + i)) (lt_s (p := fun i => am_zP (150 + i)) (lt_s (p := fun i => am_zP (150 + i)) (lt_s (p := fun i => am_zP (150 + i)) (lt_s (p := fun i => am_zP (150 + i)) (lt_s (p := fun i => am_zP (150 + i)) (lt_s (p := fun i => am_zP (150 + i)) (lt_s (p := fun i => am_zP (150 + i)) (lt_s (p := fun i => am_zP (150 + i)) (lt_s (p := fun i => am_zP (150 + i)) (lt_s (p := fun i => am_zP (150 + i)) (lt_s (p := fun i => am_zP (150 + i)) (lt_s (p := fun i => am_zP (150 + i)) (lt_s (p := fun i => am_zP (150 + i)) (lt_s (p := fun i => am_zP (150 + i)) (lt_s (p := fun i => am_zP (150 + i)) (lt_s (p := fun i => am_zP (150 + i)) (lt_s (p := fun i => am_zP (150 + i)) (lt_s (p := fun i => am_zP (150 + i)) (lt_s (p := fun i => am_zP (150 + i)) lt_0 am_z_150) am_z_151) am_z_152) am_z_153) am_z_154) am_z_155) am_z_156) am_z_157) am_z_158) am_z_159) am_z_160) am_z_161) am_z_162) am_z_163) am_z_164) am_z_165) am_z_166) am_z_167) am_z_168) am_z_169) am_z_170) am_z_171) am_z_172) am_z_173) am_z_174) am_z_175) am_z_176) am_z_177) am_z_178) am_z_179) am_z_180) am_z_181) am_z_182) am_z_183) am_z_184) am_z_185) am_z_186) am_z_187) am_z_188) am_z_189) am_z_190) am_z_191) am_z_192) am_z_193) am_z_194) am_z_195) am_z_196) am_z_197) am_z_198) am_z_199)
set_option maxRecDepth 100000 in
theorem am_zb_200 : ∀ i, i < 50 → am_zP (200 + i) := (lt_s (p := fun i => am_zP (200 + i)) (lt_s (p := fun i => am_zP (200 + i)) (lt_s (p := fun i => am_zP (200 + i)) (lt_s (p := fun i => am_zP (200 + i)) (lt_s (p := fun i => am_zP (200 + i)) (lt_s (p := fun i => am_zP (200 + i)) (lt_s (p := fun i => am_zP (200 + i)) (lt_s (p := fun i => am_zP (200 + i)) (lt_s (p := fun i => am_zP (200 + i)) (lt_s (p := fun i => am_zP (200 + i)) (lt_s (p := fun i => am_zP (200 + i)) (lt_s (p := fun i => am_zP (200 + i)) (lt_s (p := fun i => am_zP (200 + i)) (lt_s (p := fun i => am_zP (200 + i)) (lt_s (p := fun i => am_zP (200 + i)) (lt_s (p := fun i => am_zP (200 + i)) (lt_s (p := fun i => am_zP (200 + i)) (lt_s (p := fun i => am_zP (200 + i)) (lt_s (p := fun i => am_zP (200 + i)) (lt_s (p := fun i => am_zP (200 + i)) (lt_s (p := fun i => am_zP (200 + i)) (lt_s (p := fun i => am_zP (200 + i)) (lt_s (p := fun i => am_zP (200 + i)) (lt_s (p := fun i => am_zP (200 + i)) (lt_s (p := fun i => am_zP (200 + i)) (lt_s (p := fun i => am_zP (200 + i)) (lt_s (p := fun i => am_zP (200 + i)) (lt_s (p := fun i => am_zP (200 + i)) (lt_s (p := fun i => am_zP (200 + i)) (lt_s (p := fun i => am_zP (200 + i)) (lt_s (p := fun i => am_zP (200 + i)) (lt_s (p := fun i => am_zP (200 + i)) (lt_s (p := fun i => am_zP (200 + i)) (lt_s (p := fun i => am_zP (200 + i)) (lt_s (p := fun i => am_zP (200 + i)) (lt_s (p := fun i => am_zP (200 + i)) (lt_s (p := fun i => am_zP (200 + i)) (lt_s (p := fun i => am_zP (200 + i)) (lt_s (p := fun i => am_zP (200 + i)) (lt_s (p := fun i => am_zP (200 + i)) (lt_s (p := fun i => am_zP (200 + i)) (lt_s (p := fun i => am_zP (200 + i)) (lt_s (p := fun i => am_zP (200 + i)) (lt_s (p := fun i => am_zP (200 + i)) (lt_s (p := fun i => am_zP (200 + i)) (lt_s (p := fun i => am_zP (200 + i)) (lt_s (p := fun i => am_zP (200 + i)) (lt_s (p := fun i => am_zP (200 + i)) (lt_s (p := fun i => am_zP (200 + i)) (lt_s (p := fun i => am_zP (200 + i)) lt_0 am_z_200) am_z_201) am_z_202) am_z_203) am_z_204) am_z_205) am_z_206) am_z_207) am_z_208) am_z_209) am_z_210) am_z_211) am_z_212) am_z_213) am_z_214) am_z_215) am_z_216) am_z_217) am_z_218) am_z_219) am_z_220) am_z_221) am_z_222) am_z_223) am_z_224) am_z_225) am_z_226) am_z_227) am_z_228) am_z_229) am_z_230) am_z_231) am_z_232) am_z_233) am_z_234) am_z_235) am_z_236) am_z_237) am_z_238) am_z_239) am_z_240) am_z_241) am_z_242) am_z_243) am_z_244) am_z_245) am_z_246) am_z_247) am_z_248) am_z_249)
set_option maxRecDepth 100000 in
theorem am_zb_250 : ∀ i, i < 43 → am_zP (250 + i) := (lt_s (p := fun i => am_zP (250 + i)) (lt_s (p := fun i => am_zP (250 + i)) (lt_s (p := fun i => am_zP (250 + i)) (lt_s (p := fun i => am_zP (250 + i)) (lt_s (p := fun i => am_zP (250 + i)) (lt_s (p := fun i => am_zP (250 + i)) (lt_s (p := fun i => am_zP (250 + i)) (lt_s (p := fun i => am_zP (250 + i)) (lt_s (p := fun i => am_zP (250 + i)) (lt_s (p := fun i => am_zP (250 + i)) (lt_s (p := fun i => am_zP (250 + i)) (lt_s (p := fun i => am_zP (250 + i)) (lt_s (p := fun i => am_zP (250 + i)) (lt_s (p := fun i => am_zP (250 + i)) (lt_s (p := fun i => am_zP (250 + i)) (lt_s (p := fun i => am_zP (250 + i)) (lt_s (p := fun i => am_zP (250 + i)) (lt_s (p := fun i => am_zP (250 + i)) (lt_s (p := fun i => am_zP (250 + i)) (lt_s (p := fun i => am_zP (250 + i)) (lt_s (p := fun i => am_zP (250 + i)) (lt_s (p := fun i => am_zP (250 + i)) (lt_s (p := fun i => am_zP (250 + i)) (lt_s (p := fun i => am_zP (250 + i)) (lt_s (p := fun i => am_zP (250 + i)) (lt_s (p := fun i => am_zP (250 + i)) (lt_s (p := fun i => am_zP (250 + i)) (lt_s (p := fun i => am_zP (250 + i)) (lt_s (p := fun i => am_zP (250 + i)) (lt_s (p := fun i => am_zP (250 + i)) (lt_s (p := fun i => am_zP (250 + i)) (lt_s (p := fun i => am_zP (250 + i)) (lt_s (p := fun i => am_zP (250 + i)) (lt_s (p := fun i => am_zP (250 + i)) (lt_s (p := fun i => am_zP (250 + i)) (lt_s (p := fun i => am_zP (250 + i)) (lt_s (p := fun i => am_zP (250 + i)) (lt_s (p := fun i => am_zP (250 + i)) (lt_s (p := fun i => am_zP (250 + i)) (lt_s (p := fun i => am_zP (250 + i)) (lt_s (p := fun i => am_zP (250 + i)) (lt_s (p := fun i => am_zP (250 + i)) (lt_s (p := fun i => am_zP (250 + i)) lt_0 am_z_250) am_z_251) am_z_252) am_z_253) am_z_254) am_z_255) am_z_256) am_z_257) am_z_258) am_z_259) am_z_260) am_z_261) am_z_262) am_z_263) am_z_264) am_z_265) am_z_266) am_z_267) am_z_268) am_z_269) am_z_270) am_z_271) am_z_272) am_z_273) am_z_274) am_z_275) am_z_276) am_z_277) am_z_278) am_z_279) am_z_280) am_z_281) am_z_282) am_z_283) am_z_284) am_z_285) am_z_286) am_z_287) am_z_288) am_z_289) am_z_290) am_z_291) am_z_292)
theorem am_zm : ∀ mi, mi < 293 → am_zP mi := by
  intro mi h
  rcases Nat.lt_or_ge mi 50 with q | q
  · have := am_zb_0 (mi - 0) (by omega)
    rwa [show 0 + (mi - 0) = mi by omega] at this
  rcases Nat.lt_or_ge mi 100 with q | q
  · have := am_zb_50 (mi - 50) (by omega)
    rwa [show 50 + (mi - 50) = mi by omega] at this
  rcases Nat.lt_or_ge mi 150 with q | q
  · have := am_zb_100 (mi - 100) (by omega)
    rwa [show 100 + (mi - 100) = mi by omega] at this
  rcases Nat.lt_or_ge mi 200 with q | q
  · have := am_zb_150 (mi - 150) (by omega)
    rwa [show 150 + (mi - 150) = mi by omega] at this
  rcases Nat.lt_or_ge mi 250 with q | q
  · have := am_zb_200 (mi - 200) (by omega)
    rwa [show 200 + (mi - 200) = mi by omega] at this
  rcases Nat.lt_or_ge mi 293 with q | q
  · have := am_zb_250 (mi - 250) (by omega)
    rwa [show 250 + (mi - 250) = mi by omega] at this
  omega
