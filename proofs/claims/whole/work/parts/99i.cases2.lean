/-! THE LAW: its cases (printed by genwalk.py) -/
def lw_lks : List (Nat × Nat × Nat) := [(13, 109, 530), (17, 159, 1543), (18, 111, 542), (22, 160, 1555), (23, 112, 546), (27, 201, 1559), (28, 113, 776), (32, 202, 1754), (33, 114, 780), (36, 221, 1762), (37, 115, 784), (41, 222, 1766), (42, 116, 795), (46, 223, 1775), (47, 117, 799), (50, 225, 1779), (51, 118, 807), (54, 226, 1791), (55, 119, 833), (58, 227, 1811), (59, 120, 837), (62, 229, 1819), (63, 121, 896), (66, 230, 1846), (67, 122, 900), (70, 232, 1850), (71, 123, 904), (74, 233, 1862), (75, 124, 912), (78, 234, 1866), (79, 125, 925), (82, 240, 1874), (83, 126, 963), (87, 241, 1898), (88, 127, 971), (91, 244, 1902), (92, 128, 987), (95, 245, 1914), (96, 129, 995), (99, 246, 1918), (100, 130, 999), (103, 247, 1922), (104, 131, 1004), (107, 251, 1926), (108, 132, 1027), (111, 252, 1946), (112, 133, 1032), (115, 253, 1950), (116, 134, 1037), (119, 254, 1954), (120, 135, 1042), (123, 255, 1958), (124, 136, 1050), (127, 256, 1962), (128, 137, 1054), (131, 257, 1966), (132, 138, 1058), (135, 258, 1970), (136, 139, 1063), (139, 260, 1974), (140, 140, 1083), (143, 261, 1982), (144, 141, 1087), (147, 265, 1986), (148, 142, 1112), (151, 269, 2002), (152, 143, 1137), (155, 272, 2018), (156, 144, 1149), (159, 273, 2030), (160, 145, 1158), (163, 274, 2034), (164, 146, 1163), (167, 277, 2038), (168, 148, 1173), (171, 278, 2046), (172, 150, 1181), (175, 279, 2054), (176, 151, 1185), (179, 282, 2058), (180, 152, 1205), (183, 284, 2070), (184, 154, 1213), (187, 285, 2078), (188, 155, 1217), (191, 204, 1758)]
set_option maxRecDepth 100000 in
set_option maxHeartbeats 0 in
theorem lw_lk : ∀ q ∈ lw_lks, tables_1[q.2.2]? = some (Cond.methodLink "TyreWorksLaw" q.1 (am_y q.2.1)) := by decide +kernel
theorem lw_lin {i a n : Nat} (h : (i, a, n) ∈ lw_lks) : Cond.methodLink R_law i (am_y a) ∈ tables_1 := List.mem_of_getElem? (lw_lk (i, a, n) h)
set_option maxRecDepth 100000 in
set_option maxHeartbeats 0 in
theorem lw_dc0 : lw_dk 220 [1, 2, 3, 4, 5] 13 17 := by
  refine ⟨by decide +kernel, ?_, by decide +kernel, by decide +kernel, ?_, by decide +kernel, by decide +kernel⟩
  · exact fun n hn => by
      have hn : n < 5 := hn
      rcases (by omega : n = 0 ∨ n = 1 ∨ n = 2 ∨ n = 3 ∨ n = 4) with rfl | rfl | rfl | rfl | rfl <;> exact ⟨by decide +kernel, by decide +kernel, by decide +kernel, by decide +kernel, by decide +kernel⟩
  · exact fun n hn => by
      have hn : n < 5 := hn
      rcases (by omega : n = 0 ∨ n = 1 ∨ n = 2 ∨ n = 3 ∨ n = 4) with rfl | rfl | rfl | rfl | rfl <;> exact ⟨by decide +kernel, by decide +kernel, by decide +kernel, by decide +kernel, by decide +kernel⟩
set_option maxRecDepth 100000 in
set_option maxHeartbeats 0 in
theorem lw_dc1 : lw_dk 283 [1] 18 22 := by
  refine ⟨by decide +kernel, ?_, by decide +kernel, by decide +kernel, ?_, by decide +kernel, by decide +kernel⟩
  · exact fun n hn => by
      have hn : n < 1 := hn
      obtain rfl : n = 0 := by omega
      exact ⟨by decide +kernel, by decide +kernel, by decide +kernel, by decide +kernel, by decide +kernel⟩
  · exact fun n hn => by
      have hn : n < 1 := hn
      obtain rfl : n = 0 := by omega
      exact ⟨by decide +kernel, by decide +kernel, by decide +kernel, by decide +kernel, by decide +kernel⟩
set_option maxRecDepth 100000 in
set_option maxHeartbeats 0 in
theorem lw_dc2 : lw_dk 306 [] 23 27 := by
  refine ⟨by decide +kernel, ?_, by decide +kernel, by decide +kernel, ?_, by decide +kernel, by decide +kernel⟩
  · exact fun n hn => absurd hn (Nat.not_lt_zero _)
  · exact fun n hn => absurd hn (Nat.not_lt_zero _)
set_option maxRecDepth 100000 in
set_option maxHeartbeats 0 in
theorem lw_dc3 : lw_dk 319 [1] 28 32 := by
  refine ⟨by decide +kernel, ?_, by decide +kernel, by decide +kernel, ?_, by decide +kernel, by decide +kernel⟩
  · exact fun n hn => by
      have hn : n < 1 := hn
      obtain rfl : n = 0 := by omega
      exact ⟨by decide +kernel, by decide +kernel, by decide +kernel, by decide +kernel, by decide +kernel⟩
  · exact fun n hn => by
      have hn : n < 1 := hn
      obtain rfl : n = 0 := by omega
      exact ⟨by decide +kernel, by decide +kernel, by decide +kernel, by decide +kernel, by decide +kernel⟩
set_option maxRecDepth 100000 in
set_option maxHeartbeats 0 in
theorem lw_dc4 : lw_dk 342 [1] 33 36 := by
  refine ⟨by decide +kernel, ?_, by decide +kernel, by decide +kernel, ?_, by decide +kernel, by decide +kernel⟩
  · exact fun n hn => by
      have hn : n < 1 := hn
      obtain rfl : n = 0 := by omega
      exact ⟨by decide +kernel, by decide +kernel, by decide +kernel, by decide +kernel, by decide +kernel⟩
  · exact fun n hn => by
      have hn : n < 1 := hn
      obtain rfl : n = 0 := by omega
      exact ⟨by decide +kernel, by decide +kernel, by decide +kernel, by decide +kernel, by decide +kernel⟩
set_option maxRecDepth 100000 in
set_option maxHeartbeats 0 in
theorem lw_dc5 : lw_dk 365 [1, 2, 3] 37 41 := by
  refine ⟨by decide +kernel, ?_, by decide +kernel, by decide +kernel, ?_, by decide +kernel, by decide +kernel⟩
  · exact fun n hn => by
      have hn : n < 3 := hn
      rcases (by omega : n = 0 ∨ n = 1 ∨ n = 2) with rfl | rfl | rfl <;> exact ⟨by decide +kernel, by decide +kernel, by decide +kernel, by decide +kernel, by decide +kernel⟩
  · exact fun n hn => by
      have hn : n < 3 := hn
      rcases (by omega : n = 0 ∨ n = 1 ∨ n = 2) with rfl | rfl | rfl <;> exact ⟨by decide +kernel, by decide +kernel, by decide +kernel, by decide +kernel, by decide +kernel⟩
set_option maxRecDepth 100000 in
set_option maxHeartbeats 0 in
theorem lw_dc6 : lw_dk 408 [1, 2] 42 46 := by
  refine ⟨by decide +kernel, ?_, by decide +kernel, by decide +kernel, ?_, by decide +kernel, by decide +kernel⟩
  · exact fun n hn => by
      have hn : n < 2 := hn
      rcases (by omega : n = 0 ∨ n = 1) with rfl | rfl <;> exact ⟨by decide +kernel, by decide +kernel, by decide +kernel, by decide +kernel, by decide +kernel⟩
  · exact fun n hn => by
      have hn : n < 2 := hn
      rcases (by omega : n = 0 ∨ n = 1) with rfl | rfl <;> exact ⟨by decide +kernel, by decide +kernel, by decide +kernel, by decide +kernel, by decide +kernel⟩
set_option maxRecDepth 100000 in
set_option maxHeartbeats 0 in
theorem lw_dc7 : lw_dk 441 [1, 2] 47 50 := by
  refine ⟨by decide +kernel, ?_, by decide +kernel, by decide +kernel, ?_, by decide +kernel, by decide +kernel⟩
  · exact fun n hn => by
      have hn : n < 2 := hn
      rcases (by omega : n = 0 ∨ n = 1) with rfl | rfl <;> exact ⟨by decide +kernel, by decide +kernel, by decide +kernel, by decide +kernel, by decide +kernel⟩
  · exact fun n hn => by
      have hn : n < 2 := hn
      rcases (by omega : n = 0 ∨ n = 1) with rfl | rfl <;> exact ⟨by decide +kernel, by decide +kernel, by decide +kernel, by decide +kernel, by decide +kernel⟩
set_option maxRecDepth 100000 in
set_option maxHeartbeats 0 in
theorem lw_dc8 : lw_dk 474 [1, 2] 51 54 := by
  refine ⟨by decide +kernel, ?_, by decide +kernel, by decide +kernel, ?_, by decide +kernel, by decide +kernel⟩
  · exact fun n hn => by
      have hn : n < 2 := hn
      rcases (by omega : n = 0 ∨ n = 1) with rfl | rfl <;> exact ⟨by decide +kernel, by decide +kernel, by decide +kernel, by decide +kernel, by decide +kernel⟩
  · exact fun n hn => by
      have hn : n < 2 := hn
      rcases (by omega : n = 0 ∨ n = 1) with rfl | rfl <;> exact ⟨by decide +kernel, by decide +kernel, by decide +kernel, by decide +kernel, by decide +kernel⟩
set_option maxRecDepth 100000 in
set_option maxHeartbeats 0 in
theorem lw_dc9 : lw_dk 507 [1, 2] 55 58 := by
  refine ⟨by decide +kernel, ?_, by decide +kernel, by decide +kernel, ?_, by decide +kernel, by decide +kernel⟩
  · exact fun n hn => by
      have hn : n < 2 := hn
      rcases (by omega : n = 0 ∨ n = 1) with rfl | rfl <;> exact ⟨by decide +kernel, by decide +kernel, by decide +kernel, by decide +kernel, by decide +kernel⟩
  · exact fun n hn => by
      have hn : n < 2 := hn
      rcases (by omega : n = 0 ∨ n = 1) with rfl | rfl <;> exact ⟨by decide +kernel, by decide +kernel, by decide +kernel, by decide +kernel, by decide +kernel⟩
set_option maxRecDepth 100000 in
set_option maxHeartbeats 0 in
theorem lw_dc10 : lw_dk 540 [1, 2] 59 62 := by
  refine ⟨by decide +kernel, ?_, by decide +kernel, by decide +kernel, ?_, by decide +kernel, by decide +kernel⟩
  · exact fun n hn => by
      have hn : n < 2 := hn
      rcases (by omega : n = 0 ∨ n = 1) with rfl | rfl <;> exact ⟨by decide +kernel, by decide +kernel, by decide +kernel, by decide +kernel, by decide +kernel⟩
  · exact fun n hn => by
      have hn : n < 2 := hn
      rcases (by omega : n = 0 ∨ n = 1) with rfl | rfl <;> exact ⟨by decide +kernel, by decide +kernel, by decide +kernel, by decide +kernel, by decide +kernel⟩
set_option maxRecDepth 100000 in
set_option maxHeartbeats 0 in
theorem lw_dc11 : lw_dk 573 [1, 2] 63 66 := by
  refine ⟨by decide +kernel, ?_, by decide +kernel, by decide +kernel, ?_, by decide +kernel, by decide +kernel⟩
  · exact fun n hn => by
      have hn : n < 2 := hn
      rcases (by omega : n = 0 ∨ n = 1) with rfl | rfl <;> exact ⟨by decide +kernel, by decide +kernel, by decide +kernel, by decide +kernel, by decide +kernel⟩
  · exact fun n hn => by
      have hn : n < 2 := hn
      rcases (by omega : n = 0 ∨ n = 1) with rfl | rfl <;> exact ⟨by decide +kernel, by decide +kernel, by decide +kernel, by decide +kernel, by decide +kernel⟩
set_option maxRecDepth 100000 in
set_option maxHeartbeats 0 in
theorem lw_dc12 : lw_dk 606 [1, 2] 67 70 := by
  refine ⟨by decide +kernel, ?_, by decide +kernel, by decide +kernel, ?_, by decide +kernel, by decide +kernel⟩
  · exact fun n hn => by
      have hn : n < 2 := hn
      rcases (by omega : n = 0 ∨ n = 1) with rfl | rfl <;> exact ⟨by decide +kernel, by decide +kernel, by decide +kernel, by decide +kernel, by decide +kernel⟩
  · exact fun n hn => by
      have hn : n < 2 := hn
      rcases (by omega : n = 0 ∨ n = 1) with rfl | rfl <;> exact ⟨by decide +kernel, by decide +kernel, by decide +kernel, by decide +kernel, by decide +kernel⟩
set_option maxRecDepth 100000 in
set_option maxHeartbeats 0 in
theorem lw_dc13 : lw_dk 639 [1, 2] 71 74 := by
  refine ⟨by decide +kernel, ?_, by decide +kernel, by decide +kernel, ?_, by decide +kernel, by decide +kernel⟩
  · exact fun n hn => by
      have hn : n < 2 := hn
      rcases (by omega : n = 0 ∨ n = 1) with rfl | rfl <;> exact ⟨by decide +kernel, by decide +kernel, by decide +kernel, by decide +kernel, by decide +kernel⟩
  · exact fun n hn => by
      have hn : n < 2 := hn
      rcases (by omega : n = 0 ∨ n = 1) with rfl | rfl <;> exact ⟨by decide +kernel, by decide +kernel, by decide +kernel, by decide +kernel, by decide +kernel⟩
set_option maxRecDepth 100000 in
set_option maxHeartbeats 0 in
theorem lw_dc14 : lw_dk 672 [1, 2, 3] 75 78 := by
  refine ⟨by decide +kernel, ?_, by decide +kernel, by decide +kernel, ?_, by decide +kernel, by decide +kernel⟩
  · exact fun n hn => by
      have hn : n < 3 := hn
      rcases (by omega : n = 0 ∨ n = 1 ∨ n = 2) with rfl | rfl | rfl <;> exact ⟨by decide +kernel, by decide +kernel, by decide +kernel, by decide +kernel, by decide +kernel⟩
  · exact fun n hn => by
      have hn : n < 3 := hn
      rcases (by omega : n = 0 ∨ n = 1 ∨ n = 2) with rfl | rfl | rfl <;> exact ⟨by decide +kernel, by decide +kernel, by decide +kernel, by decide +kernel, by decide +kernel⟩
set_option maxRecDepth 100000 in
set_option maxHeartbeats 0 in
theorem lw_dc15 : lw_dk 715 [1] 79 82 := by
  refine ⟨by decide +kernel, ?_, by decide +kernel, by decide +kernel, ?_, by decide +kernel, by decide +kernel⟩
  · exact fun n hn => by
      have hn : n < 1 := hn
      obtain rfl : n = 0 := by omega
      exact ⟨by decide +kernel, by decide +kernel, by decide +kernel, by decide +kernel, by decide +kernel⟩
  · exact fun n hn => by
      have hn : n < 1 := hn
      obtain rfl : n = 0 := by omega
      exact ⟨by decide +kernel, by decide +kernel, by decide +kernel, by decide +kernel, by decide +kernel⟩
set_option maxRecDepth 100000 in
set_option maxHeartbeats 0 in
theorem lw_dc16 : lw_dk 738 [1, 2] 83 87 := by
  refine ⟨by decide +kernel, ?_, by decide +kernel, by decide +kernel, ?_, by decide +kernel, by decide +kernel⟩
  · exact fun n hn => by
      have hn : n < 2 := hn
      rcases (by omega : n = 0 ∨ n = 1) with rfl | rfl <;> exact ⟨by decide +kernel, by decide +kernel, by decide +kernel, by decide +kernel, by decide +kernel⟩
  · exact fun n hn => by
      have hn : n < 2 := hn
      rcases (by omega : n = 0 ∨ n = 1) with rfl | rfl <;> exact ⟨by decide +kernel, by decide +kernel, by decide +kernel, by decide +kernel, by decide +kernel⟩
set_option maxRecDepth 100000 in
set_option maxHeartbeats 0 in
theorem lw_dc17 : lw_dk 771 [1] 88 91 := by
  refine ⟨by decide +kernel, ?_, by decide +kernel, by decide +kernel, ?_, by decide +kernel, by decide +kernel⟩
  · exact fun n hn => by
      have hn : n < 1 := hn
      obtain rfl : n = 0 := by omega
      exact ⟨by decide +kernel, by decide +kernel, by decide +kernel, by decide +kernel, by decide +kernel⟩
  · exact fun n hn => by
      have hn : n < 1 := hn
      obtain rfl : n = 0 := by omega
      exact ⟨by decide +kernel, by decide +kernel, by decide +kernel, by decide +kernel, by decide +kernel⟩
set_option maxRecDepth 100000 in
set_option maxHeartbeats 0 in
theorem lw_dc18 : lw_dk 794 [1] 92 95 := by
  refine ⟨by decide +kernel, ?_, by decide +kernel, by decide +kernel, ?_, by decide +kernel, by decide +kernel⟩
  · exact fun n hn => by
      have hn : n < 1 := hn
      obtain rfl : n = 0 := by omega
      exact ⟨by decide +kernel, by decide +kernel, by decide +kernel, by decide +kernel, by decide +kernel⟩
  · exact fun n hn => by
      have hn : n < 1 := hn
      obtain rfl : n = 0 := by omega
      exact ⟨by decide +kernel, by decide +kernel, by decide +kernel, by decide +kernel, by decide +kernel⟩
set_option maxRecDepth 100000 in
set_option maxHeartbeats 0 in
theorem lw_dc19 : lw_dk 817 [1] 96 99 := by
  refine ⟨by decide +kernel, ?_, by decide +kernel, by decide +kernel, ?_, by decide +kernel, by decide +kernel⟩
  · exact fun n hn => by
      have hn : n < 1 := hn
      obtain rfl : n = 0 := by omega
      exact ⟨by decide +kernel, by decide +kernel, by decide +kernel, by decide +kernel, by decide +kernel⟩
  · exact fun n hn => by
      have hn : n < 1 := hn
      obtain rfl : n = 0 := by omega
      exact ⟨by decide +kernel, by decide +kernel, by decide +kernel, by decide +kernel, by decide +kernel⟩
set_option maxRecDepth 100000 in
set_option maxHeartbeats 0 in
theorem lw_dc20 : lw_dk 840 [1] 100 103 := by
  refine ⟨by decide +kernel, ?_, by decide +kernel, by decide +kernel, ?_, by decide +kernel, by decide +kernel⟩
  · exact fun n hn => by
      have hn : n < 1 := hn
      obtain rfl : n = 0 := by omega
      exact ⟨by decide +kernel, by decide +kernel, by decide +kernel, by decide +kernel, by decide +kernel⟩
  · exact fun n hn => by
      have hn : n < 1 := hn
      obtain rfl : n = 0 := by omega
      exact ⟨by decide +kernel, by decide +kernel, by decide +kernel, by decide +kernel, by decide +kernel⟩
set_option maxRecDepth 100000 in
set_option maxHeartbeats 0 in
theorem lw_dc21 : lw_dk 863 [1] 104 107 := by
  refine ⟨by decide +kernel, ?_, by decide +kernel, by decide +kernel, ?_, by decide +kernel, by decide +kernel⟩
  · exact fun n hn => by
      have hn : n < 1 := hn
      obtain rfl : n = 0 := by omega
      exact ⟨by decide +kernel, by decide +kernel, by decide +kernel, by decide +kernel, by decide +kernel⟩
  · exact fun n hn => by
      have hn : n < 1 := hn
      obtain rfl : n = 0 := by omega
      exact ⟨by decide +kernel, by decide +kernel, by decide +kernel, by decide +kernel, by decide +kernel⟩
set_option maxRecDepth 100000 in
set_option maxHeartbeats 0 in
theorem lw_dc22 : lw_dk 886 [1] 108 111 := by
  refine ⟨by decide +kernel, ?_, by decide +kernel, by decide +kernel, ?_, by decide +kernel, by decide +kernel⟩
  · exact fun n hn => by
      have hn : n < 1 := hn
      obtain rfl : n = 0 := by omega
      exact ⟨by decide +kernel, by decide +kernel, by decide +kernel, by decide +kernel, by decide +kernel⟩
  · exact fun n hn => by
      have hn : n < 1 := hn
      obtain rfl : n = 0 := by omega
      exact ⟨by decide +kernel, by decide +kernel, by decide +kernel, by decide +kernel, by decide +kernel⟩
set_option maxRecDepth 100000 in
set_option maxHeartbeats 0 in
theorem lw_dc23 : lw_dk 909 [1, 2] 112 115 := by
  refine ⟨by decide +kernel, ?_, by decide +kernel, by decide +kernel, ?_, by decide +kernel, by decide +kernel⟩
  · exact fun n hn => by
      have hn : n < 2 := hn
      rcases (by omega : n = 0 ∨ n = 1) with rfl | rfl <;> exact ⟨by decide +kernel, by decide +kernel, by decide +kernel, by decide +kernel, by decide +kernel⟩
  · exact fun n hn => by
      have hn : n < 2 := hn
      rcases (by omega : n = 0 ∨ n = 1) with rfl | rfl <;> exact ⟨by decide +kernel, by decide +kernel, by decide +kernel, by decide +kernel, by decide +kernel⟩
set_option maxRecDepth 100000 in
set_option maxHeartbeats 0 in
theorem lw_dc24 : lw_dk 942 [1] 116 119 := by
  refine ⟨by decide +kernel, ?_, by decide +kernel, by decide +kernel, ?_, by decide +kernel, by decide +kernel⟩
  · exact fun n hn => by
      have hn : n < 1 := hn
      obtain rfl : n = 0 := by omega
      exact ⟨by decide +kernel, by decide +kernel, by decide +kernel, by decide +kernel, by decide +kernel⟩
  · exact fun n hn => by
      have hn : n < 1 := hn
      obtain rfl : n = 0 := by omega
      exact ⟨by decide +kernel, by decide +kernel, by decide +kernel, by decide +kernel, by decide +kernel⟩
set_option maxRecDepth 100000 in
set_option maxHeartbeats 0 in
theorem lw_dc25 : lw_dk 965 [1, 2] 120 123 := by
  refine ⟨by decide +kernel, ?_, by decide +kernel, by decide +kernel, ?_, by decide +kernel, by decide +kernel⟩
  · exact fun n hn => by
      have hn : n < 2 := hn
      rcases (by omega : n = 0 ∨ n = 1) with rfl | rfl <;> exact ⟨by decide +kernel, by decide +kernel, by decide +kernel, by decide +kernel, by decide +kernel⟩
  · exact fun n hn => by
      have hn : n < 2 := hn
      rcases (by omega : n = 0 ∨ n = 1) with rfl | rfl <;> exact ⟨by decide +kernel, by decide +kernel, by decide +kernel, by decide +kernel, by decide +kernel⟩
set_option maxRecDepth 100000 in
set_option maxHeartbeats 0 in
theorem lw_dc26 : lw_dk 998 [1] 124 127 := by
  refine ⟨by decide +kernel, ?_, by decide +kernel, by decide +kernel, ?_, by decide +kernel, by decide +kernel⟩
  · exact fun n hn => by
      have hn : n < 1 := hn
      obtain rfl : n = 0 := by omega
      exact ⟨by decide +kernel, by decide +kernel, by decide +kernel, by decide +kernel, by decide +kernel⟩
  · exact fun n hn => by
      have hn : n < 1 := hn
      obtain rfl : n = 0 := by omega
      exact ⟨by decide +kernel, by decide +kernel, by decide +kernel, by decide +kernel, by decide +kernel⟩
set_option maxRecDepth 100000 in
set_option maxHeartbeats 0 in
theorem lw_dc27 : lw_dk 1021 [1] 128 131 := by
  refine ⟨by decide +kernel, ?_, by decide +kernel, by decide +kernel, ?_, by decide +kernel, by decide +kernel⟩
  · exact fun n hn => by
      have hn : n < 1 := hn
      obtain rfl : n = 0 := by omega
      exact ⟨by decide +kernel, by decide +kernel, by decide +kernel, by decide +kernel, by decide +kernel⟩
  · exact fun n hn => by
      have hn : n < 1 := hn
      obtain rfl : n = 0 := by omega
      exact ⟨by decide +kernel, by decide +kernel, by decide +kernel, by decide +kernel, by decide +kernel⟩
set_option maxRecDepth 100000 in
set_option maxHeartbeats 0 in
theorem lw_dc28 : lw_dk 1044 [1] 132 135 := by
  refine ⟨by decide +kernel, ?_, by decide +kernel, by decide +kernel, ?_, by decide +kernel, by decide +kernel⟩
  · exact fun n hn => by
      have hn : n < 1 := hn
      obtain rfl : n = 0 := by omega
      exact ⟨by decide +kernel, by decide +kernel, by decide +kernel, by decide +kernel, by decide +kernel⟩
  · exact fun n hn => by
      have hn : n < 1 := hn
      obtain rfl : n = 0 := by omega
      exact ⟨by decide +kernel, by decide +kernel, by decide +kernel, by decide +kernel, by decide +kernel⟩
set_option maxRecDepth 100000 in
set_option maxHeartbeats 0 in
theorem lw_dc29 : lw_dk 1067 [] 136 139 := by
  refine ⟨by decide +kernel, ?_, by decide +kernel, by decide +kernel, ?_, by decide +kernel, by decide +kernel⟩
  · exact fun n hn => absurd hn (Nat.not_lt_zero _)
  · exact fun n hn => absurd hn (Nat.not_lt_zero _)
set_option maxRecDepth 100000 in
set_option maxHeartbeats 0 in
theorem lw_dc30 : lw_dk 1080 [] 140 143 := by
  refine ⟨by decide +kernel, ?_, by decide +kernel, by decide +kernel, ?_, by decide +kernel, by decide +kernel⟩
  · exact fun n hn => absurd hn (Nat.not_lt_zero _)
  · exact fun n hn => absurd hn (Nat.not_lt_zero _)
set_option maxRecDepth 100000 in
set_option maxHeartbeats 0 in
theorem lw_dc31 : lw_dk 1093 [1] 144 147 := by
  refine ⟨by decide +kernel, ?_, by decide +kernel, by decide +kernel, ?_, by decide +kernel, by decide +kernel⟩
  · exact fun n hn => by
      have hn : n < 1 := hn
      obtain rfl : n = 0 := by omega
      exact ⟨by decide +kernel, by decide +kernel, by decide +kernel, by decide +kernel, by decide +kernel⟩
  · exact fun n hn => by
      have hn : n < 1 := hn
      obtain rfl : n = 0 := by omega
      exact ⟨by decide +kernel, by decide +kernel, by decide +kernel, by decide +kernel, by decide +kernel⟩
set_option maxRecDepth 100000 in
set_option maxHeartbeats 0 in
theorem lw_dc32 : lw_dk 1116 [1] 148 151 := by
  refine ⟨by decide +kernel, ?_, by decide +kernel, by decide +kernel, ?_, by decide +kernel, by decide +kernel⟩
  · exact fun n hn => by
      have hn : n < 1 := hn
      obtain rfl : n = 0 := by omega
      exact ⟨by decide +kernel, by decide +kernel, by decide +kernel, by decide +kernel, by decide +kernel⟩
  · exact fun n hn => by
      have hn : n < 1 := hn
      obtain rfl : n = 0 := by omega
      exact ⟨by decide +kernel, by decide +kernel, by decide +kernel, by decide +kernel, by decide +kernel⟩
set_option maxRecDepth 100000 in
set_option maxHeartbeats 0 in
theorem lw_dc33 : lw_dk 1139 [1] 152 155 := by
  refine ⟨by decide +kernel, ?_, by decide +kernel, by decide +kernel, ?_, by decide +kernel, by decide +kernel⟩
  · exact fun n hn => by
      have hn : n < 1 := hn
      obtain rfl : n = 0 := by omega
      exact ⟨by decide +kernel, by decide +kernel, by decide +kernel, by decide +kernel, by decide +kernel⟩
  · exact fun n hn => by
      have hn : n < 1 := hn
      obtain rfl : n = 0 := by omega
      exact ⟨by decide +kernel, by decide +kernel, by decide +kernel, by decide +kernel, by decide +kernel⟩
set_option maxRecDepth 100000 in
set_option maxHeartbeats 0 in
theorem lw_dc34 : lw_dk 1162 [1] 156 159 := by
  refine ⟨by decide +kernel, ?_, by decide +kernel, by decide +kernel, ?_, by decide +kernel, by decide +kernel⟩
  · exact fun n hn => by
      have hn : n < 1 := hn
      obtain rfl : n = 0 := by omega
      exact ⟨by decide +kernel, by decide +kernel, by decide +kernel, by decide +kernel, by decide +kernel⟩
  · exact fun n hn => by
      have hn : n < 1 := hn
      obtain rfl : n = 0 := by omega
      exact ⟨by decide +kernel, by decide +kernel, by decide +kernel, by decide +kernel, by decide +kernel⟩
set_option maxRecDepth 100000 in
set_option maxHeartbeats 0 in
theorem lw_dc35 : lw_dk 1185 [1] 160 163 := by
  refine ⟨by decide +kernel, ?_, by decide +kernel, by decide +kernel, ?_, by decide +kernel, by decide +kernel⟩
  · exact fun n hn => by
      have hn : n < 1 := hn
      obtain rfl : n = 0 := by omega
      exact ⟨by decide +kernel, by decide +kernel, by decide +kernel, by decide +kernel, by decide +kernel⟩
  · exact fun n hn => by
      have hn : n < 1 := hn
      obtain rfl : n = 0 := by omega
      exact ⟨by decide +kernel, by decide +kernel, by decide +kernel, by decide +kernel, by decide +kernel⟩
set_option maxRecDepth 100000 in
set_option maxHeartbeats 0 in
theorem lw_dc36 : lw_dk 1208 [1, 2] 164 167 := by
  refine ⟨by decide +kernel, ?_, by decide +kernel, by decide +kernel, ?_, by decide +kernel, by decide +kernel⟩
  · exact fun n hn => by
      have hn : n < 2 := hn
      rcases (by omega : n = 0 ∨ n = 1) with rfl | rfl <;> exact ⟨by decide +kernel, by decide +kernel, by decide +kernel, by decide +kernel, by decide +kernel⟩
  · exact fun n hn => by
      have hn : n < 2 := hn
      rcases (by omega : n = 0 ∨ n = 1) with rfl | rfl <;> exact ⟨by decide +kernel, by decide +kernel, by decide +kernel, by decide +kernel, by decide +kernel⟩
set_option maxRecDepth 100000 in
set_option maxHeartbeats 0 in
theorem lw_dc37 : lw_dk 1241 [1] 168 171 := by
  refine ⟨by decide +kernel, ?_, by decide +kernel, by decide +kernel, ?_, by decide +kernel, by decide +kernel⟩
  · exact fun n hn => by
      have hn : n < 1 := hn
      obtain rfl : n = 0 := by omega
      exact ⟨by decide +kernel, by decide +kernel, by decide +kernel, by decide +kernel, by decide +kernel⟩
  · exact fun n hn => by
      have hn : n < 1 := hn
      obtain rfl : n = 0 := by omega
      exact ⟨by decide +kernel, by decide +kernel, by decide +kernel, by decide +kernel, by decide +kernel⟩
set_option maxRecDepth 100000 in
set_option maxHeartbeats 0 in
theorem lw_dc38 : lw_dk 1264 [] 172 175 := by
  refine ⟨by decide +kernel, ?_, by decide +kernel, by decide +kernel, ?_, by decide +kernel, by decide +kernel⟩
  · exact fun n hn => absurd hn (Nat.not_lt_zero _)
  · exact fun n hn => absurd hn (Nat.not_lt_zero _)
set_option maxRecDepth 100000 in
set_option maxHeartbeats 0 in
theorem lw_dc39 : lw_dk 1277 [1] 176 179 := by
  refine ⟨by decide +kernel, ?_, by decide +kernel, by decide +kernel, ?_, by decide +kernel, by decide +kernel⟩
  · exact fun n hn => by
      have hn : n < 1 := hn
      obtain rfl : n = 0 := by omega
      exact ⟨by decide +kernel, by decide +kernel, by decide +kernel, by decide +kernel, by decide +kernel⟩
  · exact fun n hn => by
      have hn : n < 1 := hn
      obtain rfl : n = 0 := by omega
      exact ⟨by decide +kernel, by decide +kernel, by decide +kernel, by decide +kernel, by decide +kernel⟩
set_option maxRecDepth 100000 in
set_option maxHeartbeats 0 in
theorem lw_dc40 : lw_dk 1300 [] 180 183 := by
  refine ⟨by decide +kernel, ?_, by decide +kernel, by decide +kernel, ?_, by decide +kernel, by decide +kernel⟩
  · exact fun n hn => absurd hn (Nat.not_lt_zero _)
  · exact fun n hn => absurd hn (Nat.not_lt_zero _)
set_option maxRecDepth 100000 in
set_option maxHeartbeats 0 in
theorem lw_dc41 : lw_dk 1313 [1] 184 187 := by
  refine ⟨by decide +kernel, ?_, by decide +kernel, by decide +kernel, ?_, by decide +kernel, by decide +kernel⟩
  · exact fun n hn => by
      have hn : n < 1 := hn
      obtain rfl : n = 0 := by omega
      exact ⟨by decide +kernel, by decide +kernel, by decide +kernel, by decide +kernel, by decide +kernel⟩
  · exact fun n hn => by
      have hn : n < 1 := hn
      obtain rfl : n = 0 := by omega
      exact ⟨by decide +kernel, by decide +kernel, by decide +kernel, by decide +kernel, by decide +kernel⟩
set_option maxRecDepth 100000 in
set_option maxHeartbeats 0 in
theorem lw_dc42 : lw_dk 1336 [1] 188 191 := by
  refine ⟨by decide +kernel, ?_, by decide +kernel, by decide +kernel, ?_, by decide +kernel, by decide +kernel⟩
  · exact fun n hn => by
      have hn : n < 1 := hn
      obtain rfl : n = 0 := by omega
      exact ⟨by decide +kernel, by decide +kernel, by decide +kernel, by decide +kernel, by decide +kernel⟩
  · exact fun n hn => by
      have hn : n < 1 := hn
      obtain rfl : n = 0 := by omega
      exact ⟨by decide +kernel, by decide +kernel, by decide +kernel, by decide +kernel, by decide +kernel⟩
set_option maxRecDepth 100000 in
set_option maxHeartbeats 0 in
theorem lw_d33 : decode code 33 = .ok (.tableswitch 1326 0 42 #[187, 250, 273, 286, 309, 332, 375, 408, 441, 474, 507, 540, 573, 606, 639, 682, 705, 738, 761, 784, 807, 830, 853, 876, 909, 932, 965, 988, 1011, 1034, 1047, 1060, 1083, 1106, 1129, 1152, 1175, 1208, 1231, 1244, 1267, 1280, 1303], 187) := by decide +kernel
theorem lw_d0 : decode code 0 = .ok (.new 7, 3) := by decide +kernel
theorem lw_d3 : decode code 3 = .ok (.dup, 1) := by decide +kernel
theorem lw_d4 : decode code 4 = .ok (.invokespecial 9, 3) := by decide +kernel
theorem lw_d7 : decode code 7 = .ok (.astore_n 1, 1) := by decide +kernel
theorem lw_d8 : decode code 8 = .ok (.new 10, 3) := by decide +kernel
theorem lw_d11 : decode code 11 = .ok (.dup, 1) := by decide +kernel
theorem lw_d12 : decode code 12 = .ok (.invokespecial 12, 3) := by decide +kernel
theorem lw_d15 : decode code 15 = .ok (.astore_n 2, 1) := by decide +kernel
theorem lw_d16 : decode code 16 = .ok (.iconst 0, 1) := by decide +kernel
theorem lw_d17 : decode code 17 = .ok (.istore_n 3, 1) := by decide +kernel
theorem lw_d18 : decode code 18 = .ok (.iload_n 3, 1) := by decide +kernel
theorem lw_d19 : decode code 19 = .ok (.aload_n 0, 1) := by decide +kernel
theorem lw_d20 : decode code 20 = .ok (.arraylength, 1) := by decide +kernel
theorem lw_d21 : decode code 21 = .ok (.bipush 6, 2) := by decide +kernel
theorem lw_d23 : decode code 23 = .ok (.isub, 1) := by decide +kernel
theorem lw_d24 : decode code 24 = .ok (.if_icmp .gt 1341, 3) := by decide +kernel
theorem lw_d27 : decode code 27 = .ok (.aload_n 0, 1) := by decide +kernel
theorem lw_d28 : decode code 28 = .ok (.iload_n 3, 1) := by decide +kernel
theorem lw_d29 : decode code 29 = .ok (.iaload, 1) := by decide +kernel
theorem lw_d30 : decode code 30 = .ok (.bipush 63, 2) := by decide +kernel
theorem lw_d32 : decode code 32 = .ok (.iand, 1) := by decide +kernel
theorem lw_d1359 : decode code 1359 = .ok (.iinc 3 6, 3) := by decide +kernel
theorem lw_d1362 : decode code 1362 = .ok (.goto (-1344), 3) := by decide +kernel
theorem lw_d1365 : decode code 1365 = .ok (.iconst 1, 1) := by decide +kernel
theorem lw_d1366 : decode code 1366 = .ok (.ireturn, 1) := by decide +kernel
section LWL
variable {p : Program} {l : Launch} {e : Env} {s : State} {m : MethodId} {below : List Frame} {meth : Method} {c : Code} {b L : Nat} {xs : Nat → Int32} {D : va_G} {cid : Nat → ClassId} {adr : Nat → Nat} {H : Heap} {locs : List Loc} {cells slots t : Nat} {Q : State → Prop} {ls : Array Slot}
theorem lw_sw (C0 : lw_At p s m meth c b L xs) (hL : L ≤ 3072) (hK : va_K D vwCl (am_tys cid) s) (hRO : am_RO adr (lw_A0 s) s s.heap) (h4 : ls.size = 4) (l0 : ls[0]? = some (.val (.ref b))) (l1 : ls[1]? = some (.val (.ref (lw_ad adr s.heap.size 0)))) (l2 : ls[2]? = some (.val (.ref (lw_ad adr (s.heap.size + 289) 0)))) (l3 : ls[3]? = some (.val (.int (nI t)))) (hcs : cells ≤ 600000) (hss : slots ≤ 7302249) (ht : t + 6 ≤ L)
    {x : Bool} {C M : tI} {J Jc : tJ} (h : Rl x C M J) (inv : lw_I D cid adr s x C Jc M J H locs)
    (kk : ∀ (x' : Bool) (C' M' : tI) (J' : tJ) (H' : Heap) (locs' : List Loc), Rl x' C' M' J' → lw_I D cid adr s x' C' Jc M' J' H' locs' → W p l e room_1 s m #[Value.ref b] below meth c H' locs' cells slots Q (F0 m 1359 ls []))
    (k : Nat) (hk : k < 43) : W p l e room_1 s m #[Value.ref b] below meth c H locs cells slots Q (F0 m 33 ls [.int (nI k)]) := by
  have hx := C0.1
  have hb := C0.2.1
  have go : ∀ {pc idC idM ci mi : Nat} (is : List Nat), lw_dk pc is idC idM → (∀ i ∈ is, i ≤ 5) → (ci < 293 ∧ am_sk ci = 2 ∧ am_own ci = 11 ∧ am_np ci = is.length) → (mi < 293 ∧ am_sk mi = 2 ∧ am_own mi = 12 ∧ am_np mi = is.length) → Cond.methodLink R_law idC (am_y ci) ∈ tables_1 → Cond.methodLink R_law idM (am_y mi) ∈ tables_1 → Lk ci mi (is.map (fun i => Value.int (xs (t + i)))) x C M Jc J → W p l e room_1 s m #[Value.ref b] below meth c H locs cells slots Q (F0 m pc ls []) :=
    fun is dk h5 hci hmi hlC hlM lk => lw_case C0 hL hK hRO h4 l0 l1 l2 l3 hcs hss is dk (fun i hi => by have := h5 i hi; omega) hci hmi hlC hlM lk inv kk
  rcases (by omega : k = 0 ∨ k = 1 ∨ k = 2 ∨ k = 3 ∨ k = 4 ∨ k = 5 ∨ k = 6 ∨ k = 7 ∨ k = 8 ∨ k = 9 ∨ k = 10 ∨ k = 11 ∨ k = 12 ∨ k = 13 ∨ k = 14 ∨ k = 15 ∨ k = 16 ∨ k = 17 ∨ k = 18 ∨ k = 19 ∨ k = 20 ∨ k = 21 ∨ k = 22 ∨ k = 23 ∨ k = 24 ∨ k = 25 ∨ k = 26 ∨ k = 27 ∨ k = 28 ∨ k = 29 ∨ k = 30 ∨ k = 31 ∨ k = 32 ∨ k = 33 ∨ k = 34 ∨ k = 35 ∨ k = 36 ∨ k = 37 ∨ k = 38 ∨ k = 39 ∨ k = 40 ∨ k = 41 ∨ k = 42) with rfl | rfl | rfl | rfl | rfl | rfl | rfl | rfl | rfl | rfl | rfl | rfl | rfl | rfl | rfl | rfl | rfl | rfl | rfl | rfl | rfl | rfl | rfl | rfl | rfl | rfl | rfl | rfl | rfl | rfl | rfl | rfl | rfl | rfl | rfl | rfl | rfl | rfl | rfl | rfl | rfl | rfl | rfl
  · exact lv_tableIn (tgt := 220) hx hb lw_d33 (by decide) (by decide) (off := 187) rfl (by decide) (go [1, 2, 3, 4, 5] lw_dc0 (by decide) (by decide +kernel) (by decide +kernel) (lw_lin (n := 530) (by decide)) (lw_lin (n := 1543) (by decide)) (k_feed h (xs (t + 1)) (xs (t + 2)) (xs (t + 3)) (xs (t + 4)) (xs (t + 5))))
  · exact lv_tableIn (tgt := 283) hx hb lw_d33 (by decide) (by decide) (off := 250) rfl (by decide) (go [1] lw_dc1 (by decide) (by decide +kernel) (by decide +kernel) (lw_lin (n := 542) (by decide)) (lw_lin (n := 1555) (by decide)) (k_end h (xs (t + 1))))
  · exact lv_tableIn (tgt := 306) hx hb lw_d33 (by decide) (by decide) (off := 273) rfl (by decide) (go [] lw_dc2 (by decide) (by decide +kernel) (by decide +kernel) (lw_lin (n := 546) (by decide)) (lw_lin (n := 1559) (by decide)) (k_works' h))
  · exact lv_tableIn (tgt := 319) hx hb lw_d33 (by decide) (by decide) (off := 286) rfl (by decide) (go [1] lw_dc3 (by decide) (by decide +kernel) (by decide +kernel) (lw_lin (n := 776) (by decide)) (lw_lin (n := 1754) (by decide)) (k_fault h (xs (t + 1))))
  · exact lv_tableIn (tgt := 342) hx hb lw_d33 (by decide) (by decide) (off := 309) rfl (by decide) (go [1] lw_dc4 (by decide) (by decide +kernel) (by decide +kernel) (lw_lin (n := 780) (by decide)) (lw_lin (n := 1762) (by decide)) (k_has h (xs (t + 1))))
  · exact lv_tableIn (tgt := 365) hx hb lw_d33 (by decide) (by decide) (off := 332) rfl (by decide) (go [1, 2, 3] lw_dc5 (by decide) (by decide +kernel) (by decide +kernel) (lw_lin (n := 784) (by decide)) (lw_lin (n := 1766) (by decide)) (k_letter h (xs (t + 1)) (xs (t + 2)) (xs (t + 3))))
  · exact lv_tableIn (tgt := 408) hx hb lw_d33 (by decide) (by decide) (off := 375) rfl (by decide) (go [1, 2] lw_dc6 (by decide) (by decide +kernel) (by decide +kernel) (lw_lin (n := 795) (by decide)) (lw_lin (n := 1775) (by decide)) (k_needs h (xs (t + 1)) (xs (t + 2))))
  · exact lv_tableIn (tgt := 441) hx hb lw_d33 (by decide) (by decide) (off := 408) rfl (by decide) (go [1, 2] lw_dc7 (by decide) (by decide +kernel) (by decide +kernel) (lw_lin (n := 799) (by decide)) (lw_lin (n := 1779) (by decide)) (k_change h (xs (t + 1)) (xs (t + 2))))
  · exact lv_tableIn (tgt := 474) hx hb lw_d33 (by decide) (by decide) (off := 441) rfl (by decide) (go [1, 2] lw_dc8 (by decide) (by decide +kernel) (by decide +kernel) (lw_lin (n := 807) (by decide)) (lw_lin (n := 1791) (by decide)) (k_batch h (xs (t + 1)) (xs (t + 2))))
  · exact lv_tableIn (tgt := 507) hx hb lw_d33 (by decide) (by decide) (off := 474) rfl (by decide) (go [1, 2] lw_dc9 (by decide) (by decide +kernel) (by decide +kernel) (lw_lin (n := 833) (by decide)) (lw_lin (n := 1811) (by decide)) (k_lot h (xs (t + 1)) (xs (t + 2))))
  · exact lv_tableIn (tgt := 540) hx hb lw_d33 (by decide) (by decide) (off := 507) rfl (by decide) (go [1, 2] lw_dc10 (by decide) (by decide +kernel) (by decide +kernel) (lw_lin (n := 837) (by decide)) (lw_lin (n := 1819) (by decide)) (k_tyre h (xs (t + 1)) (xs (t + 2))))
  · exact lv_tableIn (tgt := 573) hx hb lw_d33 (by decide) (by decide) (off := 540) rfl (by decide) (go [1, 2] lw_dc11 (by decide) (by decide +kernel) (by decide +kernel) (lw_lin (n := 896) (by decide)) (lw_lin (n := 1846) (by decide)) (k_press h (xs (t + 1)) (xs (t + 2))))
  · exact lv_tableIn (tgt := 606) hx hb lw_d33 (by decide) (by decide) (off := 573) rfl (by decide) (go [1, 2] lw_dc12 (by decide) (by decide +kernel) (by decide +kernel) (lw_lin (n := 900) (by decide)) (lw_lin (n := 1850) (by decide)) (k_mould h (xs (t + 1)) (xs (t + 2))))
  · exact lv_tableIn (tgt := 639) hx hb lw_d33 (by decide) (by decide) (off := 606) rfl (by decide) (go [1, 2] lw_dc13 (by decide) (by decide +kernel) (by decide +kernel) (lw_lin (n := 904) (by decide)) (lw_lin (n := 1862) (by decide)) (k_mix h (xs (t + 1)) (xs (t + 2))))
  · exact lv_tableIn (tgt := 672) hx hb lw_d33 (by decide) (by decide) (off := 639) rfl (by decide) (go [1, 2, 3] lw_dc14 (by decide) (by decide +kernel) (by decide +kernel) (lw_lin (n := 912) (by decide)) (lw_lin (n := 1866) (by decide)) (k_cut h (xs (t + 1)) (xs (t + 2)) (xs (t + 3))))
  · exact lv_tableIn (tgt := 715) hx hb lw_d33 (by decide) (by decide) (off := 682) rfl (by decide) (go [1] lw_dc15 (by decide) (by decide +kernel) (by decide +kernel) (lw_lin (n := 925) (by decide)) (lw_lin (n := 1874) (by decide)) (k_build h (xs (t + 1))))
  · exact lv_tableIn (tgt := 738) hx hb lw_d33 (by decide) (by decide) (off := 705) rfl (by decide) (go [1, 2] lw_dc16 (by decide) (by decide +kernel) (by decide +kernel) (lw_lin (n := 963) (by decide)) (lw_lin (n := 1898) (by decide)) (k_mount h (xs (t + 1)) (xs (t + 2))))
  · exact lv_tableIn (tgt := 771) hx hb lw_d33 (by decide) (by decide) (off := 738) rfl (by decide) (go [1] lw_dc17 (by decide) (by decide +kernel) (by decide +kernel) (lw_lin (n := 971) (by decide)) (lw_lin (n := 1902) (by decide)) (k_cure h (xs (t + 1))))
  · exact lv_tableIn (tgt := 794) hx hb lw_d33 (by decide) (by decide) (off := 761) rfl (by decide) (go [1] lw_dc18 (by decide) (by decide +kernel) (by decide +kernel) (lw_lin (n := 987) (by decide)) (lw_lin (n := 1914) (by decide)) (k_clean h (xs (t + 1))))
  · exact lv_tableIn (tgt := 817) hx hb lw_d33 (by decide) (by decide) (off := 784) rfl (by decide) (go [1] lw_dc19 (by decide) (by decide +kernel) (by decide +kernel) (lw_lin (n := 995) (by decide)) (lw_lin (n := 1918) (by decide)) (k_scrap h (xs (t + 1))))
  · exact lv_tableIn (tgt := 840) hx hb lw_d33 (by decide) (by decide) (off := 807) rfl (by decide) (go [1] lw_dc20 (by decide) (by decide +kernel) (by decide +kernel) (lw_lin (n := 999) (by decide)) (lw_lin (n := 1922) (by decide)) (k_hours h (xs (t + 1))))
  · exact lv_tableIn (tgt := 863) hx hb lw_d33 (by decide) (by decide) (off := 830) rfl (by decide) (go [1] lw_dc21 (by decide) (by decide +kernel) (by decide +kernel) (lw_lin (n := 1004) (by decide)) (lw_lin (n := 1926) (by decide)) (k_goOn h (xs (t + 1))))
  · exact lv_tableIn (tgt := 886) hx hb lw_d33 (by decide) (by decide) (off := 853) rfl (by decide) (go [1] lw_dc22 (by decide) (by decide +kernel) (by decide +kernel) (lw_lin (n := 1027) (by decide)) (lw_lin (n := 1946) (by decide)) (k_stock h (xs (t + 1))))
  · exact lv_tableIn (tgt := 909) hx hb lw_d33 (by decide) (by decide) (off := 876) rfl (by decide) (go [1, 2] lw_dc23 (by decide) (by decide +kernel) (by decide +kernel) (lw_lin (n := 1032) (by decide)) (lw_lin (n := 1950) (by decide)) (k_count h (xs (t + 1)) (xs (t + 2))))
  · exact lv_tableIn (tgt := 942) hx hb lw_d33 (by decide) (by decide) (off := 909) rfl (by decide) (go [1] lw_dc24 (by decide) (by decide +kernel) (by decide +kernel) (lw_lin (n := 1037) (by decide)) (lw_lin (n := 1954) (by decide)) (k_could h (xs (t + 1))))
  · exact lv_tableIn (tgt := 965) hx hb lw_d33 (by decide) (by decide) (off := 932) rfl (by decide) (go [1, 2] lw_dc25 (by decide) (by decide +kernel) (by decide +kernel) (lw_lin (n := 1042) (by decide)) (lw_lin (n := 1958) (by decide)) (k_trace h (xs (t + 1)) (xs (t + 2))))
  · exact lv_tableIn (tgt := 998) hx hb lw_d33 (by decide) (by decide) (off := 965) rfl (by decide) (go [1] lw_dc26 (by decide) (by decide +kernel) (by decide +kernel) (lw_lin (n := 1050) (by decide)) (lw_lin (n := 1962) (by decide)) (k_others h (xs (t + 1))))
  · exact lv_tableIn (tgt := 1021) hx hb lw_d33 (by decide) (by decide) (off := 988) rfl (by decide) (go [1] lw_dc27 (by decide) (by decide +kernel) (by decide +kernel) (lw_lin (n := 1054) (by decide)) (lw_lin (n := 1966) (by decide)) (k_bad h (xs (t + 1))))
  · exact lv_tableIn (tgt := 1044) hx hb lw_d33 (by decide) (by decide) (off := 1011) rfl (by decide) (go [1] lw_dc28 (by decide) (by decide +kernel) (by decide +kernel) (lw_lin (n := 1058) (by decide)) (lw_lin (n := 1970) (by decide)) (k_law h (xs (t + 1))))
  · exact lv_tableIn (tgt := 1067) hx hb lw_d33 (by decide) (by decide) (off := 1034) rfl (by decide) (go [] lw_dc29 (by decide) (by decide +kernel) (by decide +kernel) (lw_lin (n := 1063) (by decide)) (lw_lin (n := 1974) (by decide)) (k_sheets h))
  · exact lv_tableIn (tgt := 1080) hx hb lw_d33 (by decide) (by decide) (off := 1047) rfl (by decide) (go [] lw_dc30 (by decide) (by decide +kernel) (by decide +kernel) (lw_lin (n := 1083) (by decide)) (lw_lin (n := 1982) (by decide)) (k_waste h))
  · exact lv_tableIn (tgt := 1093) hx hb lw_d33 (by decide) (by decide) (off := 1060) rfl (by decide) (go [1] lw_dc31 (by decide) (by decide +kernel) (by decide +kernel) (lw_lin (n := 1087) (by decide)) (lw_lin (n := 1986) (by decide)) (k_route h (xs (t + 1))))
  · exact lv_tableIn (tgt := 1116) hx hb lw_d33 (by decide) (by decide) (off := 1083) rfl (by decide) (go [1] lw_dc32 (by decide) (by decide +kernel) (by decide +kernel) (lw_lin (n := 1112) (by decide)) (lw_lin (n := 2002) (by decide)) (k_starves h (xs (t + 1))))
  · exact lv_tableIn (tgt := 1139) hx hb lw_d33 (by decide) (by decide) (off := 1106) rfl (by decide) (go [1] lw_dc33 (by decide) (by decide +kernel) (by decide +kernel) (lw_lin (n := 1137) (by decide)) (lw_lin (n := 2018) (by decide)) (k_kept h (xs (t + 1))))
  · exact lv_tableIn (tgt := 1162) hx hb lw_d33 (by decide) (by decide) (off := 1129) rfl (by decide) (go [1] lw_dc34 (by decide) (by decide +kernel) (by decide +kernel) (lw_lin (n := 1149) (by decide)) (lw_lin (n := 2030) (by decide)) (k_when h (xs (t + 1))))
  · exact lv_tableIn (tgt := 1185) hx hb lw_d33 (by decide) (by decide) (off := 1152) rfl (by decide) (go [1] lw_dc35 (by decide) (by decide +kernel) (by decide +kernel) (lw_lin (n := 1158) (by decide)) (lw_lin (n := 2034) (by decide)) (k_wave h (xs (t + 1))))
  · exact lv_tableIn (tgt := 1208) hx hb lw_d33 (by decide) (by decide) (off := 1175) rfl (by decide) (go [1, 2] lw_dc36 (by decide) (by decide +kernel) (by decide +kernel) (lw_lin (n := 1163) (by decide)) (lw_lin (n := 2038) (by decide)) (k_spread h (xs (t + 1)) (xs (t + 2))))
  · exact lv_tableIn (tgt := 1241) hx hb lw_d33 (by decide) (by decide) (off := 1208) rfl (by decide) (go [1] lw_dc37 (by decide) (by decide +kernel) (by decide +kernel) (lw_lin (n := 1173) (by decide)) (lw_lin (n := 2046) (by decide)) (k_turn h (xs (t + 1))))
  · exact lv_tableIn (tgt := 1264) hx hb lw_d33 (by decide) (by decide) (off := 1231) rfl (by decide) (go [] lw_dc38 (by decide) (by decide +kernel) (by decide +kernel) (lw_lin (n := 1181) (by decide)) (lw_lin (n := 2054) (by decide)) (k_match h))
  · exact lv_tableIn (tgt := 1277) hx hb lw_d33 (by decide) (by decide) (off := 1244) rfl (by decide) (go [1] lw_dc39 (by decide) (by decide +kernel) (by decide +kernel) (lw_lin (n := 1185) (by decide)) (lw_lin (n := 2058) (by decide)) (k_pounds h (xs (t + 1))))
  · exact lv_tableIn (tgt := 1300) hx hb lw_d33 (by decide) (by decide) (off := 1267) rfl (by decide) (go [] lw_dc40 (by decide) (by decide +kernel) (by decide +kernel) (lw_lin (n := 1205) (by decide)) (lw_lin (n := 2070) (by decide)) (k_image h))
  · exact lv_tableIn (tgt := 1313) hx hb lw_d33 (by decide) (by decide) (off := 1280) rfl (by decide) (go [1] lw_dc41 (by decide) (by decide +kernel) (by decide +kernel) (lw_lin (n := 1213) (by decide)) (lw_lin (n := 2078) (by decide)) (k_octet h (xs (t + 1))))
  · exact lv_tableIn (tgt := 1336) hx hb lw_d33 (by decide) (by decide) (off := 1303) rfl (by decide) (go [1] lw_dc42 (by decide) (by decide +kernel) (by decide +kernel) (lw_lin (n := 1217) (by decide)) (lw_lin (n := 1758) (by decide)) (k_status h (xs (t + 1))))
end LWL
