def lyX : Nat → sx_K := fun k => ([.inr (.inr (6, [some (some 1), some (some 8), some (some 19), some (some 65), some (some 98), none, none])), .inr (.inr (4, [none, some (some 2), some (some 3), some (some 4), some (some 5), some (some 6), some (some 7)])), .inl 12, .inl 13, .inl 60, .inl 60, .inl 480, .inl 480, .inr (.inr (0, [some (some 1), some (some 9), none, none, some (some 14), some (some 15), some (some 16), some (some 17), some (some 18)])), .inr (.inr (5, [none, some (some 10), some (some 11), some (some 12), some (some 13)])), .inl 32, .inl 33, .inl 33, .inl 32, .inl 12, .inl 12, .inl 12, .inl 13, .inl 13, .inr (.inr (3, [some (some 8), none, none, some (some 20), some (some 21), some (some 35), some (some 49), none, none, some (some 63), some (some 64)])), .inl 13, .inr (.inl (2, 13, fun i => some (22 + i))), .inl 6, .inl 6, .inl 6, .inl 6, .inl 6, .inl 6, .inl 6, .inl 6, .inl 6, .inl 6, .inl 6, .inl 6, .inl 6, .inr (.inl (2, 13, fun i => some (36 + i))), .inl 6, .inl 6, .inl 6, .inl 6, .inl 6, .inl 6, .inl 6, .inl 6, .inl 6, .inl 6, .inl 6, .inl 6, .inl 6, .inr (.inl (2, 13, fun i => some (50 + i))), .inl 6, .inl 6, .inl 6, .inl 6, .inl 6, .inl 6, .inl 6, .inl 6, .inl 6, .inl 6, .inl 6, .inl 6, .inl 6, .inl 13, .inl 12, .inr (.inl (0, 16, fun i => some (66 + 2 * i))), .inr (.inr (1, [some (some 1), none, none, some (some 67)])), .inl 12, .inr (.inr (1, [some (some 1), none, none, some (some 69)])), .inl 12, .inr (.inr (1, [some (some 1), none, none, some (some 71)])), .inl 12, .inr (.inr (1, [some (some 1), none, none, some (some 73)])), .inl 12, .inr (.inr (1, [some (some 1), none, none, some (some 75)])), .inl 12, .inr (.inr (1, [some (some 1), none, none, some (some 77)])), .inl 12, .inr (.inr (1, [some (some 1), none, none, some (some 79)])), .inl 12, .inr (.inr (1, [some (some 1), none, none, some (some 81)])), .inl 12, .inr (.inr (1, [some (some 1), none, none, some (some 83)])), .inl 12, .inr (.inr (1, [some (some 1), none, none, some (some 85)])), .inl 12, .inr (.inr (1, [some (some 1), none, none, some (some 87)])), .inl 12, .inr (.inr (1, [some (some 1), none, none, some (some 89)])), .inl 12, .inr (.inr (1, [some (some 1), none, none, some (some 91)])), .inl 12, .inr (.inr (1, [some (some 1), none, none, some (some 93)])), .inl 12, .inr (.inr (1, [some (some 1), none, none, some (some 95)])), .inl 12, .inr (.inr (1, [some (some 1), none, none, some (some 97)])), .inl 12, .inr (.inl (1, 6, fun i => some (99 + 5 * i))), .inr (.inr (2, [some (some 100), some (some 101), some (some 102), some (some 103)])), .inl 60, .inl 60, .inl 60, .inl 60, .inr (.inr (2, [some (some 105), some (some 106), some (some 107), some (some 108)])), .inl 60, .inl 60, .inl 60, .inl 60, .inr (.inr (2, [some (some 110), some (some 111), some (some 112), some (some 113)])), .inl 60, .inl 60, .inl 60, .inl 60, .inr (.inr (2, [some (some 115), some (some 116), some (some 117), some (some 118)])), .inl 60, .inl 60, .inl 60, .inl 60, .inr (.inr (2, [some (some 120), some (some 121), some (some 122), some (some 123)])), .inl 60, .inl 60, .inl 60, .inl 60, .inr (.inr (2, [some (some 125), some (some 126), some (some 127), some (some 128)])), .inl 60, .inl 60, .inl 60, .inl 60] : List sx_K).getD k (.inl 0)
theorem lyX_0 : lyX 0 = .inr (.inr (6, [some (some 1), some (some 8), some (some 19), some (some 65), some (some 98), none, none])) := rfl
theorem lyX_1 : lyX 1 = .inr (.inr (4, [none, some (some 2), some (some 3), some (some 4), some (some 5), some (some 6), some (some 7)])) := rfl
theorem lyX_2 : lyX 2 = .inl 12 := rfl
theorem lyX_3 : lyX 3 = .inl 13 := rfl
theorem lyX_4 : lyX 4 = .inl 60 := rfl
theorem lyX_5 : lyX 5 = .inl 60 := rfl
theorem lyX_6 : lyX 6 = .inl 480 := rfl
theorem lyX_7 : lyX 7 = .inl 480 := rfl
theorem lyX_8 : lyX 8 = .inr (.inr (0, [some (some 1), some (some 9), none, none, some (some 14), some (some 15), some (some 16), some (some 17), some (some 18)])) := rfl
theorem lyX_9 : lyX 9 = .inr (.inr (5, [none, some (some 10), some (some 11), some (some 12), some (some 13)])) := rfl
theorem lyX_10 : lyX 10 = .inl 32 := rfl
theorem lyX_11 : lyX 11 = .inl 33 := rfl
theorem lyX_12 : lyX 12 = .inl 33 := rfl
theorem lyX_13 : lyX 13 = .inl 32 := rfl
theorem lyX_14 : lyX 14 = .inl 12 := rfl
theorem lyX_15 : lyX 15 = .inl 12 := rfl
theorem lyX_16 : lyX 16 = .inl 12 := rfl
theorem lyX_17 : lyX 17 = .inl 13 := rfl
theorem lyX_18 : lyX 18 = .inl 13 := rfl
theorem lyX_19 : lyX 19 = .inr (.inr (3, [some (some 8), none, none, some (some 20), some (some 21), some (some 35), some (some 49), none, none, some (some 63), some (some 64)])) := rfl
theorem lyX_20 : lyX 20 = .inl 13 := rfl
theorem lyX_21 : lyX 21 = .inr (.inl (2, 13, fun i => some (22 + i))) := rfl
theorem lyX_22 : lyX 22 = .inl 6 := rfl
theorem lyX_23 : lyX 23 = .inl 6 := rfl
theorem lyX_24 : lyX 24 = .inl 6 := rfl
theorem lyX_25 : lyX 25 = .inl 6 := rfl
theorem lyX_26 : lyX 26 = .inl 6 := rfl
theorem lyX_27 : lyX 27 = .inl 6 := rfl
theorem lyX_28 : lyX 28 = .inl 6 := rfl
theorem lyX_29 : lyX 29 = .inl 6 := rfl
theorem lyX_30 : lyX 30 = .inl 6 := rfl
theorem lyX_31 : lyX 31 = .inl 6 := rfl
theorem lyX_32 : lyX 32 = .inl 6 := rfl
theorem lyX_33 : lyX 33 = .inl 6 := rfl
theorem lyX_34 : lyX 34 = .inl 6 := rfl
theorem lyX_35 : lyX 35 = .inr (.inl (2, 13, fun i => some (36 + i))) := rfl
theorem lyX_36 : lyX 36 = .inl 6 := rfl
theorem lyX_37 : lyX 37 = .inl 6 := rfl
theorem lyX_38 : lyX 38 = .inl 6 := rfl
theorem lyX_39 : lyX 39 = .inl 6 := rfl
theorem lyX_40 : lyX 40 = .inl 6 := rfl
theorem lyX_41 : lyX 41 = .inl 6 := rfl
theorem lyX_42 : lyX 42 = .inl 6 := rfl
theorem lyX_43 : lyX 43 = .inl 6 := rfl
theorem lyX_44 : lyX 44 = .inl 6 := rfl
theorem lyX_45 : lyX 45 = .inl 6 := rfl
theorem lyX_46 : lyX 46 = .inl 6 := rfl
theorem lyX_47 : lyX 47 = .inl 6 := rfl
theorem lyX_48 : lyX 48 = .inl 6 := rfl
theorem lyX_49 : lyX 49 = .inr (.inl (2, 13, fun i => some (50 + i))) := rfl
theorem lyX_50 : lyX 50 = .inl 6 := rfl
theorem lyX_51 : lyX 51 = .inl 6 := rfl
theorem lyX_52 : lyX 52 = .inl 6 := rfl
theorem lyX_53 : lyX 53 = .inl 6 := rfl
theorem lyX_54 : lyX 54 = .inl 6 := rfl
theorem lyX_55 : lyX 55 = .inl 6 := rfl
theorem lyX_56 : lyX 56 = .inl 6 := rfl
theorem lyX_57 : lyX 57 = .inl 6 := rfl
theorem lyX_58 : lyX 58 = .inl 6 := rfl
theorem lyX_59 : lyX 59 = .inl 6 := rfl
theorem lyX_60 : lyX 60 = .inl 6 := rfl
theorem lyX_61 : lyX 61 = .inl 6 := rfl
theorem lyX_62 : lyX 62 = .inl 6 := rfl
theorem lyX_63 : lyX 63 = .inl 13 := rfl
theorem lyX_64 : lyX 64 = .inl 12 := rfl
theorem lyX_65 : lyX 65 = .inr (.inl (0, 16, fun i => some (66 + 2 * i))) := rfl
theorem lyX_66 : lyX 66 = .inr (.inr (1, [some (some 1), none, none, some (some 67)])) := rfl
theorem lyX_67 : lyX 67 = .inl 12 := rfl
theorem lyX_68 : lyX 68 = .inr (.inr (1, [some (some 1), none, none, some (some 69)])) := rfl
theorem lyX_69 : lyX 69 = .inl 12 := rfl
theorem lyX_70 : lyX 70 = .inr (.inr (1, [some (some 1), none, none, some (some 71)])) := rfl
theorem lyX_71 : lyX 71 = .inl 12 := rfl
theorem lyX_72 : lyX 72 = .inr (.inr (1, [some (some 1), none, none, some (some 73)])) := rfl
theorem lyX_73 : lyX 73 = .inl 12 := rfl
theorem lyX_74 : lyX 74 = .inr (.inr (1, [some (some 1), none, none, some (some 75)])) := rfl
theorem lyX_75 : lyX 75 = .inl 12 := rfl
theorem lyX_76 : lyX 76 = .inr (.inr (1, [some (some 1), none, none, some (some 77)])) := rfl
theorem lyX_77 : lyX 77 = .inl 12 := rfl
theorem lyX_78 : lyX 78 = .inr (.inr (1, [some (some 1), none, none, some (some 79)])) := rfl
theorem lyX_79 : lyX 79 = .inl 12 := rfl
theorem lyX_80 : lyX 80 = .inr (.inr (1, [some (some 1), none, none, some (some 81)])) := rfl
theorem lyX_81 : lyX 81 = .inl 12 := rfl
theorem lyX_82 : lyX 82 = .inr (.inr (1, [some (some 1), none, none, some (some 83)])) := rfl
theorem lyX_83 : lyX 83 = .inl 12 := rfl
theorem lyX_84 : lyX 84 = .inr (.inr (1, [some (some 1), none, none, some (some 85)])) := rfl
theorem lyX_85 : lyX 85 = .inl 12 := rfl
theorem lyX_86 : lyX 86 = .inr (.inr (1, [some (some 1), none, none, some (some 87)])) := rfl
theorem lyX_87 : lyX 87 = .inl 12 := rfl
theorem lyX_88 : lyX 88 = .inr (.inr (1, [some (some 1), none, none, some (some 89)])) := rfl
theorem lyX_89 : lyX 89 = .inl 12 := rfl
theorem lyX_90 : lyX 90 = .inr (.inr (1, [some (some 1), none, none, some (some 91)])) := rfl
theorem lyX_91 : lyX 91 = .inl 12 := rfl
theorem lyX_92 : lyX 92 = .inr (.inr (1, [some (some 1), none, none, some (some 93)])) := rfl
theorem lyX_93 : lyX 93 = .inl 12 := rfl
theorem lyX_94 : lyX 94 = .inr (.inr (1, [some (some 1), none, none, some (some 95)])) := rfl
theorem lyX_95 : lyX 95 = .inl 12 := rfl
theorem lyX_96 : lyX 96 = .inr (.inr (1, [some (some 1), none, none, some (some 97)])) := rfl
theorem lyX_97 : lyX 97 = .inl 12 := rfl
theorem lyX_98 : lyX 98 = .inr (.inl (1, 6, fun i => some (99 + 5 * i))) := rfl
theorem lyX_99 : lyX 99 = .inr (.inr (2, [some (some 100), some (some 101), some (some 102), some (some 103)])) := rfl
theorem lyX_100 : lyX 100 = .inl 60 := rfl
theorem lyX_101 : lyX 101 = .inl 60 := rfl
theorem lyX_102 : lyX 102 = .inl 60 := rfl
theorem lyX_103 : lyX 103 = .inl 60 := rfl
theorem lyX_104 : lyX 104 = .inr (.inr (2, [some (some 105), some (some 106), some (some 107), some (some 108)])) := rfl
theorem lyX_105 : lyX 105 = .inl 60 := rfl
theorem lyX_106 : lyX 106 = .inl 60 := rfl
theorem lyX_107 : lyX 107 = .inl 60 := rfl
theorem lyX_108 : lyX 108 = .inl 60 := rfl
theorem lyX_109 : lyX 109 = .inr (.inr (2, [some (some 110), some (some 111), some (some 112), some (some 113)])) := rfl
theorem lyX_110 : lyX 110 = .inl 60 := rfl
theorem lyX_111 : lyX 111 = .inl 60 := rfl
theorem lyX_112 : lyX 112 = .inl 60 := rfl
theorem lyX_113 : lyX 113 = .inl 60 := rfl
theorem lyX_114 : lyX 114 = .inr (.inr (2, [some (some 115), some (some 116), some (some 117), some (some 118)])) := rfl
theorem lyX_115 : lyX 115 = .inl 60 := rfl
theorem lyX_116 : lyX 116 = .inl 60 := rfl
theorem lyX_117 : lyX 117 = .inl 60 := rfl
theorem lyX_118 : lyX 118 = .inl 60 := rfl
theorem lyX_119 : lyX 119 = .inr (.inr (2, [some (some 120), some (some 121), some (some 122), some (some 123)])) := rfl
theorem lyX_120 : lyX 120 = .inl 60 := rfl
theorem lyX_121 : lyX 121 = .inl 60 := rfl
theorem lyX_122 : lyX 122 = .inl 60 := rfl
theorem lyX_123 : lyX 123 = .inl 60 := rfl
theorem lyX_124 : lyX 124 = .inr (.inr (2, [some (some 125), some (some 126), some (some 127), some (some 128)])) := rfl
theorem lyX_125 : lyX 125 = .inl 60 := rfl
theorem lyX_126 : lyX 126 = .inl 60 := rfl
theorem lyX_127 : lyX 127 = .inl 60 := rfl
theorem lyX_128 : lyX 128 = .inl 60 := rfl
def isX1 (q : Nat) : Prop := ∃ i : Nat, i < 16 ∧ q = 66 + 2 * i
theorem isX1_ly {q : Nat} (h : isX1 q) : lyX q = .inr (.inr (1, [some (some 1), none, none, some (some (q + 1))])) := by
  obtain ⟨i, hi, rfl⟩ := h
  have h9 : i = 0 ∨ i = 1 ∨ i = 2 ∨ i = 3 ∨ i = 4 ∨ i = 5 ∨ i = 6 ∨ i = 7 ∨ i = 8 ∨ i = 9 ∨ i = 10 ∨ i = 11 ∨ i = 12 ∨ i = 13 ∨ i = 14 ∨ i = 15 := by omega
  rcases h9 with rfl | rfl | rfl | rfl | rfl | rfl | rfl | rfl | rfl | rfl | rfl | rfl | rfl | rfl | rfl | rfl <;> rfl
theorem isX1_lt {q : Nat} (h : isX1 q) : q < 129 := by
  obtain ⟨i, hi, rfl⟩ := h
  omega
theorem isX1_of {i : Int32} {r : Nat} (h : vp_in i 16) (e : r = 66 + 2 * i.toNatClampNeg) : isX1 r := ⟨i.toNatClampNeg, Nat.not_le.mp (fun z => h (Or.inr z)), e⟩
theorem isX1_ly1 {q : Nat} (h : isX1 q) : lyX (q + 1) = .inl 12 := by
  obtain ⟨i, hi, rfl⟩ := h
  have h9 : i = 0 ∨ i = 1 ∨ i = 2 ∨ i = 3 ∨ i = 4 ∨ i = 5 ∨ i = 6 ∨ i = 7 ∨ i = 8 ∨ i = 9 ∨ i = 10 ∨ i = 11 ∨ i = 12 ∨ i = 13 ∨ i = 14 ∨ i = 15 := by omega
  rcases h9 with rfl | rfl | rfl | rfl | rfl | rfl | rfl | rfl | rfl | rfl | rfl | rfl | rfl | rfl | rfl | rfl <;> rfl
theorem isX1_lt1 {q : Nat} (h : isX1 q) : q + 1 < 129 := by
  obtain ⟨i, hi, rfl⟩ := h
  omega
def isX2 (q : Nat) : Prop := ∃ i : Nat, i < 6 ∧ q = 99 + 5 * i
theorem isX2_ly {q : Nat} (h : isX2 q) : lyX q = .inr (.inr (2, [some (some (q + 1)), some (some (q + 2)), some (some (q + 3)), some (some (q + 4))])) := by
  obtain ⟨i, hi, rfl⟩ := h
  have h9 : i = 0 ∨ i = 1 ∨ i = 2 ∨ i = 3 ∨ i = 4 ∨ i = 5 := by omega
  rcases h9 with rfl | rfl | rfl | rfl | rfl | rfl <;> rfl
theorem isX2_lt {q : Nat} (h : isX2 q) : q < 129 := by
  obtain ⟨i, hi, rfl⟩ := h
  omega
theorem isX2_of {i : Int32} {r : Nat} (h : vp_in i 6) (e : r = 99 + 5 * i.toNatClampNeg) : isX2 r := ⟨i.toNatClampNeg, Nat.not_le.mp (fun z => h (Or.inr z)), e⟩
theorem isX2_ly1 {q : Nat} (h : isX2 q) : lyX (q + 1) = .inl 60 := by
  obtain ⟨i, hi, rfl⟩ := h
  have h9 : i = 0 ∨ i = 1 ∨ i = 2 ∨ i = 3 ∨ i = 4 ∨ i = 5 := by omega
  rcases h9 with rfl | rfl | rfl | rfl | rfl | rfl <;> rfl
theorem isX2_lt1 {q : Nat} (h : isX2 q) : q + 1 < 129 := by
  obtain ⟨i, hi, rfl⟩ := h
  omega
theorem isX2_ly2 {q : Nat} (h : isX2 q) : lyX (q + 2) = .inl 60 := by
  obtain ⟨i, hi, rfl⟩ := h
  have h9 : i = 0 ∨ i = 1 ∨ i = 2 ∨ i = 3 ∨ i = 4 ∨ i = 5 := by omega
  rcases h9 with rfl | rfl | rfl | rfl | rfl | rfl <;> rfl
theorem isX2_lt2 {q : Nat} (h : isX2 q) : q + 2 < 129 := by
  obtain ⟨i, hi, rfl⟩ := h
  omega
theorem isX2_ly3 {q : Nat} (h : isX2 q) : lyX (q + 3) = .inl 60 := by
  obtain ⟨i, hi, rfl⟩ := h
  have h9 : i = 0 ∨ i = 1 ∨ i = 2 ∨ i = 3 ∨ i = 4 ∨ i = 5 := by omega
  rcases h9 with rfl | rfl | rfl | rfl | rfl | rfl <;> rfl
theorem isX2_lt3 {q : Nat} (h : isX2 q) : q + 3 < 129 := by
  obtain ⟨i, hi, rfl⟩ := h
  omega
theorem isX2_ly4 {q : Nat} (h : isX2 q) : lyX (q + 4) = .inl 60 := by
  obtain ⟨i, hi, rfl⟩ := h
  have h9 : i = 0 ∨ i = 1 ∨ i = 2 ∨ i = 3 ∨ i = 4 ∨ i = 5 := by omega
  rcases h9 with rfl | rfl | rfl | rfl | rfl | rfl <;> rfl
theorem isX2_lt4 {q : Nat} (h : isX2 q) : q + 4 < 129 := by
  obtain ⟨i, hi, rfl⟩ := h
  omega
theorem rowX_21_ly {i : Int32} {r : Nat} (h : vp_in i 13) (e : r = 22 + i.toNatClampNeg) : lyX r = .inl 6 := by
  have h8 : i.toNatClampNeg < 13 := Nat.not_le.mp (fun z => h (Or.inr z))
  subst e
  have h9 : i.toNatClampNeg = 0 ∨ i.toNatClampNeg = 1 ∨ i.toNatClampNeg = 2 ∨ i.toNatClampNeg = 3 ∨ i.toNatClampNeg = 4 ∨ i.toNatClampNeg = 5 ∨ i.toNatClampNeg = 6 ∨ i.toNatClampNeg = 7 ∨ i.toNatClampNeg = 8 ∨ i.toNatClampNeg = 9 ∨ i.toNatClampNeg = 10 ∨ i.toNatClampNeg = 11 ∨ i.toNatClampNeg = 12 := by omega
  rcases h9 with h9 | h9 | h9 | h9 | h9 | h9 | h9 | h9 | h9 | h9 | h9 | h9 | h9 <;> (rw [h9]; rfl)
theorem rowX_21_lt {i : Int32} {r : Nat} (h : vp_in i 13) (e : r = 22 + i.toNatClampNeg) : r < 129 := by
  have h8 : i.toNatClampNeg < 13 := Nat.not_le.mp (fun z => h (Or.inr z))
  omega
theorem rowX_35_ly {i : Int32} {r : Nat} (h : vp_in i 13) (e : r = 36 + i.toNatClampNeg) : lyX r = .inl 6 := by
  have h8 : i.toNatClampNeg < 13 := Nat.not_le.mp (fun z => h (Or.inr z))
  subst e
  have h9 : i.toNatClampNeg = 0 ∨ i.toNatClampNeg = 1 ∨ i.toNatClampNeg = 2 ∨ i.toNatClampNeg = 3 ∨ i.toNatClampNeg = 4 ∨ i.toNatClampNeg = 5 ∨ i.toNatClampNeg = 6 ∨ i.toNatClampNeg = 7 ∨ i.toNatClampNeg = 8 ∨ i.toNatClampNeg = 9 ∨ i.toNatClampNeg = 10 ∨ i.toNatClampNeg = 11 ∨ i.toNatClampNeg = 12 := by omega
  rcases h9 with h9 | h9 | h9 | h9 | h9 | h9 | h9 | h9 | h9 | h9 | h9 | h9 | h9 <;> (rw [h9]; rfl)
theorem rowX_35_lt {i : Int32} {r : Nat} (h : vp_in i 13) (e : r = 36 + i.toNatClampNeg) : r < 129 := by
  have h8 : i.toNatClampNeg < 13 := Nat.not_le.mp (fun z => h (Or.inr z))
  omega
theorem rowX_49_ly {i : Int32} {r : Nat} (h : vp_in i 13) (e : r = 50 + i.toNatClampNeg) : lyX r = .inl 6 := by
  have h8 : i.toNatClampNeg < 13 := Nat.not_le.mp (fun z => h (Or.inr z))
  subst e
  have h9 : i.toNatClampNeg = 0 ∨ i.toNatClampNeg = 1 ∨ i.toNatClampNeg = 2 ∨ i.toNatClampNeg = 3 ∨ i.toNatClampNeg = 4 ∨ i.toNatClampNeg = 5 ∨ i.toNatClampNeg = 6 ∨ i.toNatClampNeg = 7 ∨ i.toNatClampNeg = 8 ∨ i.toNatClampNeg = 9 ∨ i.toNatClampNeg = 10 ∨ i.toNatClampNeg = 11 ∨ i.toNatClampNeg = 12 := by omega
  rcases h9 with h9 | h9 | h9 | h9 | h9 | h9 | h9 | h9 | h9 | h9 | h9 | h9 | h9 <;> (rw [h9]; rfl)
theorem rowX_49_lt {i : Int32} {r : Nat} (h : vp_in i 13) (e : r = 50 + i.toNatClampNeg) : r < 129 := by
  have h8 : i.toNatClampNeg < 13 := Nat.not_le.mp (fun z => h (Or.inr z))
  omega
