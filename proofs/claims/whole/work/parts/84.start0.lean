def zeL (x : xX) (E : Nat → va_E) : Nat → va_E := uE (ze_11_260 x (uE (ze_10_0 x (uE (E) 0 (.inr (10, [.null, .null, .null, .null, .null, .null, .null, .null, .null, .null, .null, .null, .null, .null, .null, .null, .null, iV 0, iV 0])))) 260 (.inr (11, [iV 0, .null, iV 0, iV 0, iV 0, iV 0, iV 0, iV 0, iV 0, iV 0, iV 0, iV 0, .null, iV 0, iV 0, .null, .null, .null, .null, iV 0, .null, .null, .null, .null, .null, .null, .null, .null, .null, iV 0, iV 0, iV 0, iV 0, iV 0, .null, .null, .null, .null])))) 280 (.inl (x.2.1.1 102, 1, .inr (.inl (fun _ => Int64.ofInt 0))))
def mu0 : xM := fun k j => bif Nat.beq k 29 || Nat.beq k 67 then -1 else bif Nat.beq k 250 || (Nat.beq k 252 || (Nat.beq k 255 || (Nat.beq k 257 || Nat.beq k 259))) then 24 else bif Nat.beq k 236 then (bif Nat.beq j 5 then 243 else bif Nat.beq j 6 then 244 else 0) else bif Nat.beq k 260 then (bif Nat.beq j 10 then -1 else 0) else 0
def zP (x : xX) (E : Nat → va_E) (k : Nat) : Prop := k ≠ 253 → zeL x E k = xE x.2.1 x.2.2.1 mu0 k
def zAll (P : Nat → Prop) : Nat → Nat → Prop
  | _, 0 => True
  | a, n + 1 => zAll P a n ∧ P (a + n)
theorem zAll.use {P : Nat → Prop} {a : Nat} : ∀ {n : Nat}, zAll P a n → ∀ k, a ≤ k → k < a + n → P k
  | 0, _, k, h1, h2 => absurd h2 (by omega)
  | n + 1, h, k, h1, h2 => by
    by_cases q : k = a + n
    · rw [q]; exact h.2
    · exact zAll.use h.1 k h1 (by omega)
set_option maxRecDepth 100000 in
theorem zq_0 (x : xX) (E : Nat → va_E) : zP x E 0 := fun _ => rfl
set_option maxRecDepth 100000 in
theorem zq_1 (x : xX) (E : Nat → va_E) : zP x E 1 := fun _ => rfl
set_option maxRecDepth 100000 in
theorem zq_2 (x : xX) (E : Nat → va_E) : zP x E 2 := fun _ => rfl
set_option maxRecDepth 100000 in
theorem zq_3 (x : xX) (E : Nat → va_E) : zP x E 3 := fun _ => rfl
set_option maxRecDepth 100000 in
theorem zq_4 (x : xX) (E : Nat → va_E) : zP x E 4 := fun _ => rfl
set_option maxRecDepth 100000 in
theorem zq_5 (x : xX) (E : Nat → va_E) : zP x E 5 := fun _ => rfl
set_option maxRecDepth 100000 in
theorem zq_6 (x : xX) (E : Nat → va_E) : zP x E 6 := fun _ => rfl
set_option maxRecDepth 100000 in
theorem zq_7 (x : xX) (E : Nat → va_E) : zP x E 7 := fun _ => rfl
set_option maxRecDepth 100000 in
theorem zq_8 (x : xX) (E : Nat → va_E) : zP x E 8 := fun _ => rfl
set_option maxRecDepth 100000 in
theorem zq_9 (x : xX) (E : Nat → va_E) : zP x E 9 := fun _ => rfl
set_option maxRecDepth 100000 in
theorem zq_10 (x : xX) (E : Nat → va_E) : zP x E 10 := fun _ => rfl
set_option maxRecDepth 100000 in
theorem zq_11 (x : xX) (E : Nat → va_E) : zP x E 11 := fun _ => rfl
set_option maxRecDepth 100000 in
theorem zq_12 (x : xX) (E : Nat → va_E) : zP x E 12 := fun _ => rfl
set_option maxRecDepth 100000 in
theorem zq_13 (x : xX) (E : Nat → va_E) : zP x E 13 := fun _ => rfl
set_option maxRecDepth 100000 in
theorem zq_14 (x : xX) (E : Nat → va_E) : zP x E 14 := fun _ => rfl
set_option maxRecDepth 100000 in
theorem zq_15 (x : xX) (E : Nat → va_E) : zP x E 15 := fun _ => rfl
set_option maxRecDepth 100000 in
theorem zq_16 (x : xX) (E : Nat → va_E) : zP x E 16 := fun _ => rfl
set_option maxRecDepth 100000 in
theorem zq_17 (x : xX) (E : Nat → va_E) : zP x E 17 := fun _ => rfl
set_option maxRecDepth 100000 in
theorem zq_18 (x : xX) (E : Nat → va_E) : zP x E 18 := fun _ => rfl
set_option maxRecDepth 100000 in
theorem zq_19 (x : xX) (E : Nat → va_E) : zP x E 19 := fun _ => rfl
set_option maxRecDepth 100000 in
theorem zq_20 (x : xX) (E : Nat → va_E) : zP x E 20 := fun _ => rfl
set_option maxRecDepth 100000 in
theorem zq_21 (x : xX) (E : Nat → va_E) : zP x E 21 := fun _ => rfl
set_option maxRecDepth 100000 in
theorem zq_22 (x : xX) (E : Nat → va_E) : zP x E 22 := fun _ => rfl
set_option maxRecDepth 100000 in
theorem zq_23 (x : xX) (E : Nat → va_E) : zP x E 23 := fun _ => rfl
set_option maxRecDepth 100000 in
theorem zq_24 (x : xX) (E : Nat → va_E) : zP x E 24 := fun _ => rfl
set_option maxRecDepth 100000 in
theorem zq_25 (x : xX) (E : Nat → va_E) : zP x E 25 := fun _ => rfl
set_option maxRecDepth 100000 in
theorem zq_26 (x : xX) (E : Nat → va_E) : zP x E 26 := fun _ => rfl
set_option maxRecDepth 100000 in
theorem zq_27 (x : xX) (E : Nat → va_E) : zP x E 27 := fun _ => rfl
set_option maxRecDepth 100000 in
theorem zq_28 (x : xX) (E : Nat → va_E) : zP x E 28 := fun _ => rfl
set_option maxRecDepth 100000 in
theorem zq_29 (x : xX) (E : Nat → va_E) : zP x E 29 := fun _ => rfl
set_option maxRecDepth 100000 in
theorem zq_30 (x : xX) (E : Nat → va_E) : zP x E 30 := fun _ => rfl
set_option maxRecDepth 100000 in
theorem zq_31 (x : xX) (E : Nat → va_E) : zP x E 31 := fun _ => rfl
set_option maxRecDepth 100000 in
theorem zq_32 (x : xX) (E : Nat → va_E) : zP x E 32 := fun _ => rfl
set_option maxRecDepth 100000 in
theorem zq_33 (x : xX) (E : Nat → va_E) : zP x E 33 := fun _ => rfl
set_option maxRecDepth 100000 in
theorem zq_34 (x : xX) (E : Nat → va_E) : zP x E 34 := fun _ => rfl
set_option maxRecDepth 100000 in
theorem zq_35 (x : xX) (E : Nat → va_E) : zP x E 35 := fun _ => rfl
set_option maxRecDepth 100000 in
theorem zq_36 (x : xX) (E : Nat → va_E) : zP x E 36 := fun _ => rfl
set_option maxRecDepth 100000 in
theorem zq_37 (x : xX) (E : Nat → va_E) : zP x E 37 := fun _ => rfl
set_option maxRecDepth 100000 in
theorem zq_38 (x : xX) (E : Nat → va_E) : zP x E 38 := fun _ => rfl
set_option maxRecDepth 100000 in
theorem zq_39 (x : xX) (E : Nat → va_E) : zP x E 39 := fun _ => rfl
set_option maxRecDepth 100000 in
theorem zq_40 (x : xX) (E : Nat → va_E) : zP x E 40 := fun _ => rfl
set_option maxRecDepth 100000 in
theorem zq_41 (x : xX) (E : Nat → va_E) : zP x E 41 := fun _ => rfl
set_option maxRecDepth 100000 in
theorem zq_42 (x : xX) (E : Nat → va_E) : zP x E 42 := fun _ => rfl
set_option maxRecDepth 100000 in
theorem zq_43 (x : xX) (E : Nat → va_E) : zP x E 43 := fun _ => rfl
set_option maxRecDepth 100000 in
theorem zq_44 (x : xX) (E : Nat → va_E) : zP x E 44 := fun _ => rfl
set_option maxRecDepth 100000 in
theorem zq_45 (x : xX) (E : Nat → va_E) : zP x E 45 := fun _ => rfl
set_option maxRecDepth 100000 in
theorem zq_46 (x : xX) (E : Nat → va_E) : zP x E 46 := fun _ => rfl
set_option maxRecDepth 100000 in
theorem zq_47 (x : xX) (E : Nat → va_E) : zP x E 47 := fun _ => rfl
set_option maxRecDepth 100000 in
theorem zq_48 (x : xX) (E : Nat → va_E) : zP x E 48 := fun _ => rfl
set_option maxRecDepth 100000 in
theorem zq_49 (x : xX) (E : Nat → va_E) : zP x E 49 := fun _ => rfl
set_option maxRecDepth 100000 in
theorem zq_50 (x : xX) (E : Nat → va_E) : zP x E 50 := fun _ => rfl
set_option maxRecDepth 100000 in
theorem zq_51 (x : xX) (E : Nat → va_E) : zP x E 51 := fun _ => rfl
set_option maxRecDepth 100000 in
theorem zq_52 (x : xX) (E : Nat → va_E) : zP x E 52 := fun _ => rfl
set_option maxRecDepth 100000 in
theorem zq_53 (x : xX) (E : Nat → va_E) : zP x E 53 := fun _ => rfl
set_option maxRecDepth 100000 in
theorem zq_54 (x : xX) (E : Nat → va_E) : zP x E 54 := fun _ => rfl
set_option maxRecDepth 100000 in
theorem zq_55 (x : xX) (E : Nat → va_E) : zP x E 55 := fun _ => rfl
set_option maxRecDepth 100000 in
theorem zq_56 (x : xX) (E : Nat → va_E) : zP x E 56 := fun _ => rfl
set_option maxRecDepth 100000 in
theorem zq_57 (x : xX) (E : Nat → va_E) : zP x E 57 := fun _ => rfl
set_option maxRecDepth 100000 in
theorem zq_58 (x : xX) (E : Nat → va_E) : zP x E 58 := fun _ => rfl
set_option maxRecDepth 100000 in
theorem zq_59 (x : xX) (E : Nat → va_E) : zP x E 59 := fun _ => rfl
set_option maxRecDepth 100000 in
theorem zq_60 (x : xX) (E : Nat → va_E) : zP x E 60 := fun _ => rfl
set_option maxRecDepth 100000 in
theorem zq_61 (x : xX) (E : Nat → va_E) : zP x E 61 := fun _ => rfl
set_option maxRecDepth 100000 in
theorem zq_62 (x : xX) (E : Nat → va_E) : zP x E 62 := fun _ => rfl
set_option maxRecDepth 100000 in
theorem zq_63 (x : xX) (E : Nat → va_E) : zP x E 63 := fun _ => rfl
set_option maxRecDepth 100000 in
theorem zq_64 (x : xX) (E : Nat → va_E) : zP x E 64 := fun _ => rfl
set_option maxRecDepth 100000 in
theorem zq_65 (x : xX) (E : Nat → va_E) : zP x E 65 := fun _ => rfl
set_option maxRecDepth 100000 in
theorem zq_66 (x : xX) (E : Nat → va_E) : zP x E 66 := fun _ => rfl
set_option maxRecDepth 100000 in
theorem zq_67 (x : xX) (E : Nat → va_E) : zP x E 67 := fun _ => rfl
set_option maxRecDepth 100000 in
theorem zq_68 (x : xX) (E : Nat → va_E) : zP x E 68 := fun _ => rfl
set_option maxRecDepth 100000 in
theorem zq_69 (x : xX) (E : Nat → va_E) : zP x E 69 := fun _ => rfl
set_option maxRecDepth 100000 in
theorem zq_70 (x : xX) (E : Nat → va_E) : zP x E 70 := fun _ => rfl
set_option maxRecDepth 100000 in
theorem zq_71 (x : xX) (E : Nat → va_E) : zP x E 71 := fun _ => rfl
set_option maxRecDepth 100000 in
theorem zq_72 (x : xX) (E : Nat → va_E) : zP x E 72 := fun _ => rfl
set_option maxRecDepth 100000 in
theorem zq_73 (x : xX) (E : Nat → va_E) : zP x E 73 := fun _ => rfl
set_option maxRecDepth 100000 in
theorem zq_74 (x : xX) (E : Nat → va_E) : zP x E 74 := fun _ => rfl
set_option maxRecDepth 100000 in
theorem zq_75 (x : xX) (E : Nat → va_E) : zP x E 75 := fun _ => rfl
set_option maxRecDepth 100000 in
theorem zq_76 (x : xX) (E : Nat → va_E) : zP x E 76 := fun _ => rfl
set_option maxRecDepth 100000 in
theorem zq_77 (x : xX) (E : Nat → va_E) : zP x E 77 := fun _ => rfl
set_option maxRecDepth 100000 in
theorem zq_78 (x : xX) (E : Nat → va_E) : zP x E 78 := fun _ => rfl
set_option maxRecDepth 100000 in
theorem zq_79 (x : xX) (E : Nat → va_E) : zP x E 79 := fun _ => rfl
set_option maxRecDepth 100000 in
theorem zq_80 (x : xX) (E : Nat → va_E) : zP x E 80 := fun _ => rfl
set_option maxRecDepth 100000 in
theorem zq_81 (x : xX) (E : Nat → va_E) : zP x E 81 := fun _ => rfl
set_option maxRecDepth 100000 in
theorem zq_82 (x : xX) (E : Nat → va_E) : zP x E 82 := fun _ => rfl
set_option maxRecDepth 100000 in
theorem zq_83 (x : xX) (E : Nat → va_E) : zP x E 83 := fun _ => rfl
set_option maxRecDepth 100000 in
theorem zq_84 (x : xX) (E : Nat → va_E) : zP x E 84 := fun _ => rfl
set_option maxRecDepth 100000 in
theorem zq_85 (x : xX) (E : Nat → va_E) : zP x E 85 := fun _ => rfl
set_option maxRecDepth 100000 in
theorem zq_86 (x : xX) (E : Nat → va_E) : zP x E 86 := fun _ => rfl
set_option maxRecDepth 100000 in
theorem zq_87 (x : xX) (E : Nat → va_E) : zP x E 87 := fun _ => rfl
set_option maxRecDepth 100000 in
theorem zq_88 (x : xX) (E : Nat → va_E) : zP x E 88 := fun _ => rfl
set_option maxRecDepth 100000 in
theorem zq_89 (x : xX) (E : Nat → va_E) : zP x E 89 := fun _ => rfl
set_option maxRecDepth 100000 in
theorem zq_90 (x : xX) (E : Nat → va_E) : zP x E 90 := fun _ => rfl
set_option maxRecDepth 100000 in
theorem zq_91 (x : xX) (E : Nat → va_E) : zP x E 91 := fun _ => rfl
set_option maxRecDepth 100000 in
theorem zq_92 (x : xX) (E : Nat → va_E) : zP x E 92 := fun _ => rfl
set_option maxRecDepth 100000 in
theorem zq_93 (x : xX) (E : Nat → va_E) : zP x E 93 := fun _ => rfl
set_option maxRecDepth 100000 in
theorem zq_94 (x : xX) (E : Nat → va_E) : zP x E 94 := fun _ => rfl
set_option maxRecDepth 100000 in
theorem zq_95 (x : xX) (E : Nat → va_E) : zP x E 95 := fun _ => rfl
set_option maxRecDepth 100000 in
theorem zq_96 (x : xX) (E : Nat → va_E) : zP x E 96 := fun _ => rfl
set_option maxRecDepth 100000 in
theorem zq_97 (x : xX) (E : Nat → va_E) : zP x E 97 := fun _ => rfl
set_option maxRecDepth 100000 in
theorem zq_98 (x : xX) (E : Nat → va_E) : zP x E 98 := fun _ => rfl
set_option maxRecDepth 100000 in
theorem zq_99 (x : xX) (E : Nat → va_E) : zP x E 99 := fun _ => rfl
set_option maxRecDepth 100000 in
theorem zq_100 (x : xX) (E : Nat → va_E) : zP x E 100 := fun _ => rfl
set_option maxRecDepth 100000 in
theorem zq_101 (x : xX) (E : Nat → va_E) : zP x E 101 := fun _ => rfl
set_option maxRecDepth 100000 in
theorem zq_102 (x : xX) (E : Nat → va_E) : zP x E 102 := fun _ => rfl
set_option maxRecDepth 100000 in
theorem zq_103 (x : xX) (E : Nat → va_E) : zP x E 103 := fun _ => rfl
set_option maxRecDepth 100000 in
theorem zq_104 (x : xX) (E : Nat → va_E) : zP x E 104 := fun _ => rfl
set_option maxRecDepth 100000 in
theorem zq_105 (x : xX) (E : Nat → va_E) : zP x E 105 := fun _ => rfl
set_option maxRecDepth 100000 in
theorem zq_106 (x : xX) (E : Nat → va_E) : zP x E 106 := fun _ => rfl
set_option maxRecDepth 100000 in
theorem zq_107 (x : xX) (E : Nat → va_E) : zP x E 107 := fun _ => rfl
set_option maxRecDepth 100000 in
theorem zq_108 (x : xX) (E : Nat → va_E) : zP x E 108 := fun _ => rfl
set_option maxRecDepth 100000 in
theorem zq_109 (x : xX) (E : Nat → va_E) : zP x E 109 := fun _ => rfl
set_option maxRecDepth 100000 in
theorem zq_110 (x : xX) (E : Nat → va_E) : zP x E 110 := fun _ => rfl
set_option maxRecDepth 100000 in
theorem zq_111 (x : xX) (E : Nat → va_E) : zP x E 111 := fun _ => rfl
set_option maxRecDepth 100000 in
theorem zq_112 (x : xX) (E : Nat → va_E) : zP x E 112 := fun _ => rfl
set_option maxRecDepth 100000 in
theorem zq_113 (x : xX) (E : Nat → va_E) : zP x E 113 := fun _ => rfl
set_option maxRecDepth 100000 in
theorem zq_114 (x : xX) (E : Nat → va_E) : zP x E 114 := fun _ => rfl
set_option maxRecDepth 100000 in
theorem zq_115 (x : xX) (E : Nat → va_E) : zP x E 115 := fun _ => rfl
set_option maxRecDepth 100000 in
theorem zq_116 (x : xX) (E : Nat → va_E) : zP x E 116 := fun _ => rfl
set_option maxRecDepth 100000 in
theorem zq_117 (x : xX) (E : Nat → va_E) : zP x E 117 := fun _ => rfl
set_option maxRecDepth 100000 in
theorem zq_118 (x : xX) (E : Nat → va_E) : zP x E 118 := fun _ => rfl
set_option maxRecDepth 100000 in
theorem zq_119 (x : xX) (E : Nat → va_E) : zP x E 119 := fun _ => rfl
set_option maxRecDepth 100000 in
theorem zq_120 (x : xX) (E : Nat → va_E) : zP x E 120 := fun _ => rfl
set_option maxRecDepth 100000 in
theorem zq_121 (x : xX) (E : Nat → va_E) : zP x E 121 := fun _ => rfl
set_option maxRecDepth 100000 in
theorem zq_122 (x : xX) (E : Nat → va_E) : zP x E 122 := fun _ => rfl
set_option maxRecDepth 100000 in
theorem zq_123 (x : xX) (E : Nat → va_E) : zP x E 123 := fun _ => rfl
set_option maxRecDepth 100000 in
theorem zq_124 (x : xX) (E : Nat → va_E) : zP x E 124 := fun _ => rfl
set_option maxRecDepth 100000 in
theorem zq_125 (x : xX) (E : Nat → va_E) : zP x E 125 := fun _ => rfl
set_option maxRecDepth 100000 in
theorem zq_126 (x : xX) (E : Nat → va_E) : zP x E 126 := fun _ => rfl
set_option maxRecDepth 100000 in
theorem zq_127 (x : xX) (E : Nat → va_E) : zP x E 127 := fun _ => rfl
set_option maxRecDepth 100000 in
theorem zq_128 (x : xX) (E : Nat → va_E) : zP x E 128 := fun _ => rfl
set_option maxRecDepth 100000 in
theorem zq_129 (x : xX) (E : Nat → va_E) : zP x E 129 := fun _ => rfl
set_option maxRecDepth 100000 in
theorem zq_130 (x : xX) (E : Nat → va_E) : zP x E 130 := fun _ => rfl
set_option maxRecDepth 100000 in
theorem zq_131 (x : xX) (E : Nat → va_E) : zP x E 131 := fun _ => rfl
set_option maxRecDepth 100000 in
theorem zq_132 (x : xX) (E : Nat → va_E) : zP x E 132 := fun _ => rfl
set_option maxRecDepth 100000 in
theorem zq_133 (x : xX) (E : Nat → va_E) : zP x E 133 := fun _ => rfl
set_option maxRecDepth 100000 in
theorem zq_134 (x : xX) (E : Nat → va_E) : zP x E 134 := fun _ => rfl
set_option maxRecDepth 100000 in
theorem zq_135 (x : xX) (E : Nat → va_E) : zP x E 135 := fun _ => rfl
set_option maxRecDepth 100000 in
theorem zq_136 (x : xX) (E : Nat → va_E) : zP x E 136 := fun _ => rfl
set_option maxRecDepth 100000 in
theorem zq_137 (x : xX) (E : Nat → va_E) : zP x E 137 := fun _ => rfl
set_option maxRecDepth 100000 in
theorem zq_138 (x : xX) (E : Nat → va_E) : zP x E 138 := fun _ => rfl
set_option maxRecDepth 100000 in
theorem zq_139 (x : xX) (E : Nat → va_E) : zP x E 139 := fun _ => rfl
set_option maxRecDepth 100000 in
theorem zq_140 (x : xX) (E : Nat → va_E) : zP x E 140 := fun _ => rfl
set_option maxRecDepth 100000 in
theorem zq_141 (x : xX) (E : Nat → va_E) : zP x E 141 := fun _ => rfl
set_option maxRecDepth 100000 in
theorem zq_142 (x : xX) (E : Nat → va_E) : zP x E 142 := fun _ => rfl
set_option maxRecDepth 100000 in
theorem zq_143 (x : xX) (E : Nat → va_E) : zP x E 143 := fun _ => rfl
set_option maxRecDepth 100000 in
theorem zq_144 (x : xX) (E : Nat → va_E) : zP x E 144 := fun _ => rfl
set_option maxRecDepth 100000 in
theorem zq_145 (x : xX) (E : Nat → va_E) : zP x E 145 := fun _ => rfl
set_option maxRecDepth 100000 in
theorem zq_146 (x : xX) (E : Nat → va_E) : zP x E 146 := fun _ => rfl
set_option maxRecDepth 100000 in
theorem zq_147 (x : xX) (E : Nat → va_E) : zP x E 147 := fun _ => rfl
set_option maxRecDepth 100000 in
theorem zq_148 (x : xX) (E : Nat → va_E) : zP x E 148 := fun _ => rfl
set_option maxRecDepth 100000 in
theorem zq_149 (x : xX) (E : Nat → va_E) : zP x E 149 := fun _ => rfl
set_option maxRecDepth 100000 in
theorem zq_150 (x : xX) (E : Nat → va_E) : zP x E 150 := fun _ => rfl
set_option maxRecDepth 100000 in
theorem zq_151 (x : xX) (E : Nat → va_E) : zP x E 151 := fun _ => rfl
set_option maxRecDepth 100000 in
theorem zq_152 (x : xX) (E : Nat → va_E) : zP x E 152 := fun _ => rfl
set_option maxRecDepth 100000 in
theorem zq_153 (x : xX) (E : Nat → va_E) : zP x E 153 := fun _ => rfl
set_option maxRecDepth 100000 in
theorem zq_154 (x : xX) (E : Nat → va_E) : zP x E 154 := fun _ => rfl
set_option maxRecDepth 100000 in
theorem zq_155 (x : xX) (E : Nat → va_E) : zP x E 155 := fun _ => rfl
set_option maxRecDepth 100000 in
theorem zq_156 (x : xX) (E : Nat → va_E) : zP x E 156 := fun _ => rfl
set_option maxRecDepth 100000 in
theorem zq_157 (x : xX) (E : Nat → va_E) : zP x E 157 := fun _ => rfl
set_option maxRecDepth 100000 in
theorem zq_158 (x : xX) (E : Nat → va_E) : zP x E 158 := fun _ => rfl
set_option maxRecDepth 100000 in
theorem zq_159 (x : xX) (E : Nat → va_E) : zP x E 159 := fun _ => rfl
set_option maxRecDepth 100000 in
theorem zq_160 (x : xX) (E : Nat → va_E) : zP x E 160 := fun _ => rfl
set_option maxRecDepth 100000 in
theorem zq_161 (x : xX) (E : Nat → va_E) : zP x E 161 := fun _ => rfl
set_option maxRecDepth 100000 in
theorem zq_162 (x : xX) (E : Nat → va_E) : zP x E 162 := fun _ => rfl
set_option maxRecDepth 100000 in
theorem zq_163 (x : xX) (E : Nat → va_E) : zP x E 163 := fun _ => rfl
set_option maxRecDepth 100000 in
theorem zq_164 (x : xX) (E : Nat → va_E) : zP x E 164 := fun _ => rfl
set_option maxRecDepth 100000 in
theorem zq_165 (x : xX) (E : Nat → va_E) : zP x E 165 := fun _ => rfl
set_option maxRecDepth 100000 in
theorem zq_166 (x : xX) (E : Nat → va_E) : zP x E 166 := fun _ => rfl
set_option maxRecDepth 100000 in
theorem zq_167 (x : xX) (E : Nat → va_E) : zP x E 167 := fun _ => rfl
set_option maxRecDepth 100000 in
theorem zq_168 (x : xX) (E : Nat → va_E) : zP x E 168 := fun _ => rfl
set_option maxRecDepth 100000 in
theorem zq_169 (x : xX) (E : Nat → va_E) : zP x E 169 := fun _ => rfl
set_option maxRecDepth 100000 in
theorem zq_170 (x : xX) (E : Nat → va_E) : zP x E 170 := fun _ => rfl
set_option maxRecDepth 100000 in
theorem zq_171 (x : xX) (E : Nat → va_E) : zP x E 171 := fun _ => rfl
set_option maxRecDepth 100000 in
theorem zq_172 (x : xX) (E : Nat → va_E) : zP x E 172 := fun _ => rfl
set_option maxRecDepth 100000 in
theorem zq_173 (x : xX) (E : Nat → va_E) : zP x E 173 := fun _ => rfl
set_option maxRecDepth 100000 in
theorem zq_174 (x : xX) (E : Nat → va_E) : zP x E 174 := fun _ => rfl
set_option maxRecDepth 100000 in
theorem zq_175 (x : xX) (E : Nat → va_E) : zP x E 175 := fun _ => rfl
set_option maxRecDepth 100000 in
theorem zq_176 (x : xX) (E : Nat → va_E) : zP x E 176 := fun _ => rfl
set_option maxRecDepth 100000 in
theorem zq_177 (x : xX) (E : Nat → va_E) : zP x E 177 := fun _ => rfl
set_option maxRecDepth 100000 in
theorem zq_178 (x : xX) (E : Nat → va_E) : zP x E 178 := fun _ => rfl
set_option maxRecDepth 100000 in
theorem zq_179 (x : xX) (E : Nat → va_E) : zP x E 179 := fun _ => rfl
set_option maxRecDepth 100000 in
theorem zq_180 (x : xX) (E : Nat → va_E) : zP x E 180 := fun _ => rfl
set_option maxRecDepth 100000 in
theorem zq_181 (x : xX) (E : Nat → va_E) : zP x E 181 := fun _ => rfl
set_option maxRecDepth 100000 in
theorem zq_182 (x : xX) (E : Nat → va_E) : zP x E 182 := fun _ => rfl
set_option maxRecDepth 100000 in
theorem zq_183 (x : xX) (E : Nat → va_E) : zP x E 183 := fun _ => rfl
set_option maxRecDepth 100000 in
theorem zq_184 (x : xX) (E : Nat → va_E) : zP x E 184 := fun _ => rfl
set_option maxRecDepth 100000 in
theorem zq_185 (x : xX) (E : Nat → va_E) : zP x E 185 := fun _ => rfl
set_option maxRecDepth 100000 in
theorem zq_186 (x : xX) (E : Nat → va_E) : zP x E 186 := fun _ => rfl
set_option maxRecDepth 100000 in
theorem zq_187 (x : xX) (E : Nat → va_E) : zP x E 187 := fun _ => rfl
set_option maxRecDepth 100000 in
theorem zq_188 (x : xX) (E : Nat → va_E) : zP x E 188 := fun _ => rfl
set_option maxRecDepth 100000 in
theorem zq_189 (x : xX) (E : Nat → va_E) : zP x E 189 := fun _ => rfl
set_option maxRecDepth 100000 in
theorem zq_190 (x : xX) (E : Nat → va_E) : zP x E 190 := fun _ => rfl
set_option maxRecDepth 100000 in
theorem zq_191 (x : xX) (E : Nat → va_E) : zP x E 191 := fun _ => rfl
set_option maxRecDepth 100000 in
theorem zq_192 (x : xX) (E : Nat → va_E) : zP x E 192 := fun _ => rfl
set_option maxRecDepth 100000 in
theorem zq_193 (x : xX) (E : Nat → va_E) : zP x E 193 := fun _ => rfl
set_option maxRecDepth 100000 in
theorem zq_194 (x : xX) (E : Nat → va_E) : zP x E 194 := fun _ => rfl
set_option maxRecDepth 100000 in
theorem zq_195 (x : xX) (E : Nat → va_E) : zP x E 195 := fun _ => rfl
set_option maxRecDepth 100000 in
theorem zq_196 (x : xX) (E : Nat → va_E) : zP x E 196 := fun _ => rfl
set_option maxRecDepth 100000 in
theorem zq_197 (x : xX) (E : Nat → va_E) : zP x E 197 := fun _ => rfl
set_option maxRecDepth 100000 in
theorem zq_198 (x : xX) (E : Nat → va_E) : zP x E 198 := fun _ => rfl
set_option maxRecDepth 100000 in
theorem zq_199 (x : xX) (E : Nat → va_E) : zP x E 199 := fun _ => rfl
set_option maxRecDepth 100000 in
theorem zq_200 (x : xX) (E : Nat → va_E) : zP x E 200 := fun _ => rfl
set_option maxRecDepth 100000 in
theorem zq_201 (x : xX) (E : Nat → va_E) : zP x E 201 := fun _ => rfl
set_option maxRecDepth 100000 in
theorem zq_202 (x : xX) (E : Nat → va_E) : zP x E 202 := fun _ => rfl
set_option maxRecDepth 100000 in
theorem zq_203 (x : xX) (E : Nat → va_E) : zP x E 203 := fun _ => rfl
set_option maxRecDepth 100000 in
theorem zq_204 (x : xX) (E : Nat → va_E) : zP x E 204 := fun _ => rfl
set_option maxRecDepth 100000 in
theorem zq_205 (x : xX) (E : Nat → va_E) : zP x E 205 := fun _ => rfl
set_option maxRecDepth 100000 in
theorem zq_206 (x : xX) (E : Nat → va_E) : zP x E 206 := fun _ => rfl
set_option maxRecDepth 100000 in
theorem zq_207 (x : xX) (E : Nat → va_E) : zP x E 207 := fun _ => rfl
set_option maxRecDepth 100000 in
theorem zq_208 (x : xX) (E : Nat → va_E) : zP x E 208 := fun _ => rfl
set_option maxRecDepth 100000 in
theorem zq_209 (x : xX) (E : Nat → va_E) : zP x E 209 := fun _ => rfl
set_option maxRecDepth 100000 in
theorem zq_210 (x : xX) (E : Nat → va_E) : zP x E 210 := fun _ => rfl
set_option maxRecDepth 100000 in
theorem zq_211 (x : xX) (E : Nat → va_E) : zP x E 211 := fun _ => rfl
set_option maxRecDepth 100000 in
theorem zq_212 (x : xX) (E : Nat → va_E) : zP x E 212 := fun _ => rfl
set_option maxRecDepth 100000 in
theorem zq_213 (x : xX) (E : Nat → va_E) : zP x E 213 := fun _ => rfl
set_option maxRecDepth 100000 in
theorem zq_214 (x : xX) (E : Nat → va_E) : zP x E 214 := fun _ => rfl
set_option maxRecDepth 100000 in
theorem zq_215 (x : xX) (E : Nat → va_E) : zP x E 215 := fun _ => rfl
set_option maxRecDepth 100000 in
theorem zq_216 (x : xX) (E : Nat → va_E) : zP x E 216 := fun _ => rfl
set_option maxRecDepth 100000 in
theorem zq_217 (x : xX) (E : Nat → va_E) : zP x E 217 := fun _ => rfl
set_option maxRecDepth 100000 in
theorem zq_218 (x : xX) (E : Nat → va_E) : zP x E 218 := fun _ => rfl
set_option maxRecDepth 100000 in
theorem zq_219 (x : xX) (E : Nat → va_E) : zP x E 219 := fun _ => rfl
set_option maxRecDepth 100000 in
theorem zq_220 (x : xX) (E : Nat → va_E) : zP x E 220 := fun _ => rfl
set_option maxRecDepth 100000 in
theorem zq_221 (x : xX) (E : Nat → va_E) : zP x E 221 := fun _ => rfl
set_option maxRecDepth 100000 in
theorem zq_222 (x : xX) (E : Nat → va_E) : zP x E 222 := fun _ => rfl
set_option maxRecDepth 100000 in
theorem zq_223 (x : xX) (E : Nat → va_E) : zP x E 223 := fun _ => rfl
set_option maxRecDepth 100000 in
theorem zq_224 (x : xX) (E : Nat → va_E) : zP x E 224 := fun _ => rfl
set_option maxRecDepth 100000 in
theorem zq_225 (x : xX) (E : Nat → va_E) : zP x E 225 := fun _ => rfl
set_option maxRecDepth 100000 in
theorem zq_226 (x : xX) (E : Nat → va_E) : zP x E 226 := fun _ => rfl
set_option maxRecDepth 100000 in
theorem zq_227 (x : xX) (E : Nat → va_E) : zP x E 227 := fun _ => rfl
set_option maxRecDepth 100000 in
theorem zq_228 (x : xX) (E : Nat → va_E) : zP x E 228 := fun _ => rfl
set_option maxRecDepth 100000 in
theorem zq_229 (x : xX) (E : Nat → va_E) : zP x E 229 := fun _ => rfl
set_option maxRecDepth 100000 in
theorem zq_230 (x : xX) (E : Nat → va_E) : zP x E 230 := fun _ => rfl
set_option maxRecDepth 100000 in
theorem zq_231 (x : xX) (E : Nat → va_E) : zP x E 231 := fun _ => rfl
set_option maxRecDepth 100000 in
theorem zq_232 (x : xX) (E : Nat → va_E) : zP x E 232 := fun _ => rfl
set_option maxRecDepth 100000 in
theorem zq_233 (x : xX) (E : Nat → va_E) : zP x E 233 := fun _ => rfl
set_option maxRecDepth 100000 in
theorem zq_234 (x : xX) (E : Nat → va_E) : zP x E 234 := fun _ => rfl
set_option maxRecDepth 100000 in
theorem zq_235 (x : xX) (E : Nat → va_E) : zP x E 235 := fun _ => rfl
set_option maxRecDepth 100000 in
theorem zq_236 (x : xX) (E : Nat → va_E) : zP x E 236 := fun _ => rfl
set_option maxRecDepth 100000 in
theorem zq_237 (x : xX) (E : Nat → va_E) : zP x E 237 := fun _ => rfl
set_option maxRecDepth 100000 in
theorem zq_238 (x : xX) (E : Nat → va_E) : zP x E 238 := fun _ => rfl
set_option maxRecDepth 100000 in
theorem zq_239 (x : xX) (E : Nat → va_E) : zP x E 239 := fun _ => rfl
set_option maxRecDepth 100000 in
theorem zq_240 (x : xX) (E : Nat → va_E) : zP x E 240 := fun _ => rfl
set_option maxRecDepth 100000 in
theorem zq_241 (x : xX) (E : Nat → va_E) : zP x E 241 := fun _ => rfl
set_option maxRecDepth 100000 in
theorem zq_242 (x : xX) (E : Nat → va_E) : zP x E 242 := fun _ => rfl
set_option maxRecDepth 100000 in
theorem zq_243 (x : xX) (E : Nat → va_E) : zP x E 243 := fun _ => rfl
set_option maxRecDepth 100000 in
theorem zq_244 (x : xX) (E : Nat → va_E) : zP x E 244 := fun _ => rfl
set_option maxRecDepth 100000 in
theorem zq_245 (x : xX) (E : Nat → va_E) : zP x E 245 := fun _ => rfl
set_option maxRecDepth 100000 in
theorem zq_246 (x : xX) (E : Nat → va_E) : zP x E 246 := fun _ => rfl
set_option maxRecDepth 100000 in
theorem zq_247 (x : xX) (E : Nat → va_E) : zP x E 247 := fun _ => rfl
set_option maxRecDepth 100000 in
theorem zq_248 (x : xX) (E : Nat → va_E) : zP x E 248 := fun _ => rfl
set_option maxRecDepth 100000 in
theorem zq_249 (x : xX) (E : Nat → va_E) : zP x E 249 := fun _ => rfl
set_option maxRecDepth 100000 in
theorem zq_250 (x : xX) (E : Nat → va_E) : zP x E 250 := fun _ => rfl
set_option maxRecDepth 100000 in
theorem zq_251 (x : xX) (E : Nat → va_E) : zP x E 251 := fun _ => rfl
set_option maxRecDepth 100000 in
theorem zq_252 (x : xX) (E : Nat → va_E) : zP x E 252 := fun _ => rfl
theorem zq_253 (x : xX) (E : Nat → va_E) : zP x E 253 := fun h => absurd rfl h
set_option maxRecDepth 100000 in
theorem zq_254 (x : xX) (E : Nat → va_E) : zP x E 254 := fun _ => rfl
set_option maxRecDepth 100000 in
theorem zq_255 (x : xX) (E : Nat → va_E) : zP x E 255 := fun _ => rfl
set_option maxRecDepth 100000 in
theorem zq_256 (x : xX) (E : Nat → va_E) : zP x E 256 := fun _ => rfl
set_option maxRecDepth 100000 in
theorem zq_257 (x : xX) (E : Nat → va_E) : zP x E 257 := fun _ => rfl
set_option maxRecDepth 100000 in
theorem zq_258 (x : xX) (E : Nat → va_E) : zP x E 258 := fun _ => rfl
set_option maxRecDepth 100000 in
theorem zq_259 (x : xX) (E : Nat → va_E) : zP x E 259 := fun _ => rfl
set_option maxRecDepth 100000 in
theorem zq_260 (x : xX) (E : Nat → va_E) : zP x E 260 := fun _ => rfl
set_option maxRecDepth 100000 in
theorem zq_261 (x : xX) (E : Nat → va_E) : zP x E 261 := fun _ => rfl
set_option maxRecDepth 100000 in
theorem zq_262 (x : xX) (E : Nat → va_E) : zP x E 262 := fun _ => rfl
set_option maxRecDepth 100000 in
theorem zq_263 (x : xX) (E : Nat → va_E) : zP x E 263 := fun _ => rfl
set_option maxRecDepth 100000 in
theorem zq_264 (x : xX) (E : Nat → va_E) : zP x E 264 := fun _ => rfl
set_option maxRecDepth 100000 in
theorem zq_265 (x : xX) (E : Nat → va_E) : zP x E 265 := fun _ => rfl
set_option maxRecDepth 100000 in
theorem zq_266 (x : xX) (E : Nat → va_E) : zP x E 266 := fun _ => rfl
set_option maxRecDepth 100000 in
theorem zq_267 (x : xX) (E : Nat → va_E) : zP x E 267 := fun _ => rfl
set_option maxRecDepth 100000 in
theorem zq_268 (x : xX) (E : Nat → va_E) : zP x E 268 := fun _ => rfl
set_option maxRecDepth 100000 in
theorem zq_269 (x : xX) (E : Nat → va_E) : zP x E 269 := fun _ => rfl
set_option maxRecDepth 100000 in
theorem zq_270 (x : xX) (E : Nat → va_E) : zP x E 270 := fun _ => rfl
set_option maxRecDepth 100000 in
theorem zq_271 (x : xX) (E : Nat → va_E) : zP x E 271 := fun _ => rfl
set_option maxRecDepth 100000 in
theorem zq_272 (x : xX) (E : Nat → va_E) : zP x E 272 := fun _ => rfl
set_option maxRecDepth 100000 in
theorem zq_273 (x : xX) (E : Nat → va_E) : zP x E 273 := fun _ => rfl
set_option maxRecDepth 100000 in
theorem zq_274 (x : xX) (E : Nat → va_E) : zP x E 274 := fun _ => rfl
set_option maxRecDepth 100000 in
theorem zq_275 (x : xX) (E : Nat → va_E) : zP x E 275 := fun _ => rfl
set_option maxRecDepth 100000 in
theorem zq_276 (x : xX) (E : Nat → va_E) : zP x E 276 := fun _ => rfl
set_option maxRecDepth 100000 in
theorem zq_277 (x : xX) (E : Nat → va_E) : zP x E 277 := fun _ => rfl
set_option maxRecDepth 100000 in
theorem zq_278 (x : xX) (E : Nat → va_E) : zP x E 278 := fun _ => rfl
set_option maxRecDepth 100000 in
theorem zq_279 (x : xX) (E : Nat → va_E) : zP x E 279 := fun _ => rfl
set_option maxRecDepth 100000 in
theorem zq_280 (x : xX) (E : Nat → va_E) : zP x E 280 := fun _ => rfl
theorem zr_0 (x : xX) (E : Nat → va_E) : zAll (zP x E) 0 20 := ⟨⟨⟨⟨⟨⟨⟨⟨⟨⟨⟨⟨⟨⟨⟨⟨⟨⟨⟨⟨trivial, zq_0 x E⟩, zq_1 x E⟩, zq_2 x E⟩, zq_3 x E⟩, zq_4 x E⟩, zq_5 x E⟩, zq_6 x E⟩, zq_7 x E⟩, zq_8 x E⟩, zq_9 x E⟩, zq_10 x E⟩, zq_11 x E⟩, zq_12 x E⟩, zq_13 x E⟩, zq_14 x E⟩, zq_15 x E⟩, zq_16 x E⟩, zq_17 x E⟩, zq_18 x E⟩, zq_19 x E⟩
theorem zr_20 (x : xX) (E : Nat → va_E) : zAll (zP x E) 20 20 := ⟨⟨⟨⟨⟨⟨⟨⟨⟨⟨⟨⟨⟨⟨⟨⟨⟨⟨⟨⟨trivial, zq_20 x E⟩, zq_21 x E⟩, zq_22 x E⟩, zq_23 x E⟩, zq_24 x E⟩, zq_25 x E⟩, zq_26 x E⟩, zq_27 x E⟩, zq_28 x E⟩, zq_29 x E⟩, zq_30 x E⟩, zq_31 x E⟩, zq_32 x E⟩, zq_33 x E⟩, zq_34 x E⟩, zq_35 x E⟩, zq_36 x E⟩, zq_37 x E⟩, zq_38 x E⟩, zq_39 x E⟩
theorem zr_40 (x : xX) (E : Nat → va_E) : zAll (zP x E) 40 20 := ⟨⟨⟨⟨⟨⟨⟨⟨⟨⟨⟨⟨⟨⟨⟨⟨⟨⟨⟨⟨trivial, zq_40 x E⟩, zq_41 x E⟩, zq_42 x E⟩, zq_43 x E⟩, zq_44 x E⟩, zq_45 x E⟩, zq_46 x E⟩, zq_47 x E⟩, zq_48 x E⟩, zq_49 x E⟩, zq_50 x E⟩, zq_51 x E⟩, zq_52 x E⟩, zq_53 x E⟩, zq_54 x E⟩, zq_55 x E⟩, zq_56 x E⟩, zq_57 x E⟩, zq_58 x E⟩, zq_59 x E⟩
theorem zr_60 (x : xX) (E : Nat → va_E) : zAll (zP x E) 60 20 := ⟨⟨⟨⟨⟨⟨⟨⟨⟨⟨⟨⟨⟨⟨⟨⟨⟨⟨⟨⟨trivial, zq_60 x E⟩, zq_61 x E⟩, zq_62 x E⟩, zq_63 x E⟩, zq_64 x E⟩, zq_65 x E⟩, zq_66 x E⟩, zq_67 x E⟩, zq_68 x E⟩, zq_69 x E⟩, zq_70 x E⟩, zq_71 x E⟩, zq_72 x E⟩, zq_73 x E⟩, zq_74 x E⟩, zq_75 x E⟩, zq_76 x E⟩, zq_77 x E⟩, zq_78 x E⟩, zq_79 x E⟩
theorem zr_80 (x : xX) (E : Nat → va_E) : zAll (zP x E) 80 20 := ⟨⟨⟨⟨⟨⟨⟨⟨⟨⟨⟨⟨⟨⟨⟨⟨⟨⟨⟨⟨trivial, zq_80 x E⟩, zq_81 x E⟩, zq_82 x E⟩, zq_83 x E⟩, zq_84 x E⟩, zq_85 x E⟩, zq_86 x E⟩, zq_87 x E⟩, zq_88 x E⟩, zq_89 x E⟩, zq_90 x E⟩, zq_91 x E⟩, zq_92 x E⟩, zq_93 x E⟩, zq_94 x E⟩, zq_95 x E⟩, zq_96 x E⟩, zq_97 x E⟩, zq_98 x E⟩, zq_99 x E⟩
theorem zr_100 (x : xX) (E : Nat → va_E) : zAll (zP x E) 100 20 := ⟨⟨⟨⟨⟨⟨⟨⟨⟨⟨⟨⟨⟨⟨⟨⟨⟨⟨⟨⟨trivial, zq_100 x E⟩, zq_101 x E⟩, zq_102 x E⟩, zq_103 x E⟩, zq_104 x E⟩, zq_105 x E⟩, zq_106 x E⟩, zq_107 x E⟩, zq_108 x E⟩, zq_109 x E⟩, zq_110 x E⟩, zq_111 x E⟩, zq_112 x E⟩, zq_113 x E⟩, zq_114 x E⟩, zq_115 x E⟩, zq_116 x E⟩, zq_117 x E⟩, zq_118 x E⟩, zq_119 x E⟩
theorem zr_120 (x : xX) (E : Nat → va_E) : zAll (zP x E) 120 20 := ⟨⟨⟨⟨⟨⟨⟨⟨⟨⟨⟨⟨⟨⟨⟨⟨⟨⟨⟨⟨trivial, zq_120 x E⟩, zq_121 x E⟩, zq_122 x E⟩, zq_123 x E⟩, zq_124 x E⟩, zq_125 x E⟩, zq_126 x E⟩, zq_127 x E⟩, zq_128 x E⟩, zq_129 x E⟩, zq_130 x E⟩, zq_131 x E⟩, zq_132 x E⟩, zq_133 x E⟩, zq_134 x E⟩, zq_135 x E⟩, zq_136 x E⟩, zq_137 x E⟩, zq_138 x E⟩, zq_139 x E⟩
theorem zr_140 (x : xX) (E : Nat → va_E) : zAll (zP x E) 140 20 := ⟨⟨⟨⟨⟨⟨⟨⟨⟨⟨⟨⟨⟨⟨⟨⟨⟨⟨⟨⟨trivial, zq_140 x E⟩, zq_141 x E⟩, zq_142 x E⟩, zq_143 x E⟩, zq_144 x E⟩, zq_145 x E⟩, zq_146 x E⟩, zq_147 x E⟩, zq_148 x E⟩, zq_149 x E⟩, zq_150 x E⟩, zq_151 x E⟩, zq_152 x E⟩, zq_153 x E⟩, zq_154 x E⟩, zq_155 x E⟩, zq_156 x E⟩, zq_157 x E⟩, zq_158 x E⟩, zq_159 x E⟩
theorem zr_160 (x : xX) (E : Nat → va_E) : zAll (zP x E) 160 20 := ⟨⟨⟨⟨⟨⟨⟨⟨⟨⟨⟨⟨⟨⟨⟨⟨⟨⟨⟨⟨trivial, zq_160 x E⟩, zq_161 x E⟩, zq_162 x E⟩, zq_163 x E⟩, zq_164 x E⟩, zq_165 x E⟩, zq_166 x E⟩, zq_167 x E⟩, zq_168 x E⟩, zq_169 x E⟩, zq_170 x E⟩, zq_171 x E⟩, zq_172 x E⟩, zq_173 x E⟩, zq_174 x E⟩, zq_175 x E⟩, zq_176 x E⟩, zq_177 x E⟩, zq_178 x E⟩, zq_179 x E⟩
theorem zr_180 (x : xX) (E : Nat → va_E) : zAll (zP x E) 180 20 := ⟨⟨⟨⟨⟨⟨⟨⟨⟨⟨⟨⟨⟨⟨⟨⟨⟨⟨⟨⟨trivial, zq_180 x E⟩, zq_181 x E⟩, zq_182 x E⟩, zq_183 x E⟩, zq_184 x E⟩, zq_185 x E⟩, zq_186 x E⟩, zq_187 x E⟩, zq_188 x E⟩, zq_189 x E⟩, zq_190 x E⟩, zq_191 x E⟩, zq_192 x E⟩, zq_193 x E⟩, zq_194 x E⟩, zq_195 x E⟩, zq_196 x E⟩, zq_197 x E⟩, zq_198 x E⟩, zq_199 x E⟩
theorem zr_200 (x : xX) (E : Nat → va_E) : zAll (zP x E) 200 20 := ⟨⟨⟨⟨⟨⟨⟨⟨⟨⟨⟨⟨⟨⟨⟨⟨⟨⟨⟨⟨trivial, zq_200 x E⟩, zq_201 x E⟩, zq_202 x E⟩, zq_203 x E⟩, zq_204 x E⟩, zq_205 x E⟩, zq_206 x E⟩, zq_207 x E⟩, zq_208 x E⟩, zq_209 x E⟩, zq_210 x E⟩, zq_211 x E⟩, zq_212 x E⟩, zq_213 x E⟩, zq_214 x E⟩, zq_215 x E⟩, zq_216 x E⟩, zq_217 x E⟩, zq_218 x E⟩, zq_219 x E⟩
theorem zr_220 (x : xX) (E : Nat → va_E) : zAll (zP x E) 220 20 := ⟨⟨⟨⟨⟨⟨⟨⟨⟨⟨⟨⟨⟨⟨⟨⟨⟨⟨⟨⟨trivial, zq_220 x E⟩, zq_221 x E⟩, zq_222 x E⟩, zq_223 x E⟩, zq_224 x E⟩, zq_225 x E⟩, zq_226 x E⟩, zq_227 x E⟩, zq_228 x E⟩, zq_229 x E⟩, zq_230 x E⟩, zq_231 x E⟩, zq_232 x E⟩, zq_233 x E⟩, zq_234 x E⟩, zq_235 x E⟩, zq_236 x E⟩, zq_237 x E⟩, zq_238 x E⟩, zq_239 x E⟩
theorem zr_240 (x : xX) (E : Nat → va_E) : zAll (zP x E) 240 20 := ⟨⟨⟨⟨⟨⟨⟨⟨⟨⟨⟨⟨⟨⟨⟨⟨⟨⟨⟨⟨trivial, zq_240 x E⟩, zq_241 x E⟩, zq_242 x E⟩, zq_243 x E⟩, zq_244 x E⟩, zq_245 x E⟩, zq_246 x E⟩, zq_247 x E⟩, zq_248 x E⟩, zq_249 x E⟩, zq_250 x E⟩, zq_251 x E⟩, zq_252 x E⟩, zq_253 x E⟩, zq_254 x E⟩, zq_255 x E⟩, zq_256 x E⟩, zq_257 x E⟩, zq_258 x E⟩, zq_259 x E⟩
theorem zr_260 (x : xX) (E : Nat → va_E) : zAll (zP x E) 260 20 := ⟨⟨⟨⟨⟨⟨⟨⟨⟨⟨⟨⟨⟨⟨⟨⟨⟨⟨⟨⟨trivial, zq_260 x E⟩, zq_261 x E⟩, zq_262 x E⟩, zq_263 x E⟩, zq_264 x E⟩, zq_265 x E⟩, zq_266 x E⟩, zq_267 x E⟩, zq_268 x E⟩, zq_269 x E⟩, zq_270 x E⟩, zq_271 x E⟩, zq_272 x E⟩, zq_273 x E⟩, zq_274 x E⟩, zq_275 x E⟩, zq_276 x E⟩, zq_277 x E⟩, zq_278 x E⟩, zq_279 x E⟩
theorem zr_280 (x : xX) (E : Nat → va_E) : zAll (zP x E) 280 1 := ⟨trivial, zq_280 x E⟩
theorem zq_all (x : xX) (E : Nat → va_E) (k : Nat) (hk : k < 281) : zP x E k := by
  by_cases h0 : k < 20
  · exact (zr_0 x E).use k (by omega) (by omega)
  by_cases h20 : k < 40
  · exact (zr_20 x E).use k (by omega) (by omega)
  by_cases h40 : k < 60
  · exact (zr_40 x E).use k (by omega) (by omega)
  by_cases h60 : k < 80
  · exact (zr_60 x E).use k (by omega) (by omega)
  by_cases h80 : k < 100
  · exact (zr_80 x E).use k (by omega) (by omega)
  by_cases h100 : k < 120
  · exact (zr_100 x E).use k (by omega) (by omega)
  by_cases h120 : k < 140
  · exact (zr_120 x E).use k (by omega) (by omega)
  by_cases h140 : k < 160
  · exact (zr_140 x E).use k (by omega) (by omega)
  by_cases h160 : k < 180
  · exact (zr_160 x E).use k (by omega) (by omega)
  by_cases h180 : k < 200
  · exact (zr_180 x E).use k (by omega) (by omega)
  by_cases h200 : k < 220
  · exact (zr_200 x E).use k (by omega) (by omega)
  by_cases h220 : k < 240
  · exact (zr_220 x E).use k (by omega) (by omega)
  by_cases h240 : k < 260
  · exact (zr_240 x E).use k (by omega) (by omega)
  by_cases h260 : k < 280
  · exact (zr_260 x E).use k (by omega) (by omega)
  by_cases h280 : k < 281
  · exact (zr_280 x E).use k (by omega) (by omega)
  exact absurd hk (by omega)
