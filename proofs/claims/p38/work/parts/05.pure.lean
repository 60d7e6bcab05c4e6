def nm {α β : Type} (a : α) (k : α → Option β) : Option β := k a
theorem nm_x {α β : Type} {a : α} {k : α → Option β} {y : β} (h : nm a k = some y) : ∃ x, x = a ∧ k x = some y := ⟨a, rfl, h⟩
def bd {α β : Type} (a : Option α) (k : α → Option β) : Option β := match a with
  | some x => k x
  | none => none
theorem bd_e {α β : Type} {a : Option α} {k : α → Option β} {y : β} (h : bd a k = some y) : ∃ x, a = some x ∧ k x = some y := by
  cases a with
  | none => cases h
  | some x => exact ⟨x, rfl, h⟩
def rdc {β : Type} (q : Nat) (i : Int32) (k : Option β) : Option β := if inb i (ln q) = true then k else none
theorem rdc_e {β : Type} {q : Nat} {i : Int32} {k : Option β} {y : β} (h : rdc q i k = some y) : inb i (ln q) = true ∧ k = some y := by
  unfold rdc at h
  by_cases hc : inb i (ln q) = true
  · exact ⟨hc, (if_pos hc).symm.trans h⟩
  · rw [if_neg hc] at h; cases h
def dvz {β : Type} (y : Int32) (k : Option β) : Option β := if y = 0 then none else k
theorem dvz_e {β : Type} {y : Int32} {k : Option β} {z : β} (h : dvz y k = some z) : ¬ y = 0 ∧ k = some z := by
  unfold dvz at h
  by_cases hc : y = 0
  · rw [if_pos hc] at h; cases h
  · exact ⟨hc, (if_neg hc).symm.trans h⟩
def bok {β : Type} (v : Int32) (k : Option β) : Option β := if v = 0 ∨ v = 1 then k else none
theorem bok_e {β : Type} {v : Int32} {k : Option β} {z : β} (h : bok v k = some z) : (v = 0 ∨ v = 1) ∧ k = some z := by
  unfold bok at h
  by_cases hc : v = 0 ∨ v = 1
  · exact ⟨hc, (if_pos hc).symm.trans h⟩
  · rw [if_neg hc] at h; cases h
theorem bok_n {v : Int32} (h : v = 0 ∨ v = 1) : narrow .boolean (.int v) = .int v := by
  rcases h with rfl | rfl <;> decide
def mni (x y : Int32) : Int32 := if y < x then y else x
def mxi (x y : Int32) : Int32 := if x < y then y else x
def FU : Nat := 20000
theorem tsw_ne {x : Int32} {n : Int} {k : Int32} (h : ¬ x = k) (hk : k.toInt = n) : x.toInt ≠ n := fun e => h (Int32.toInt_inj.mp (e.trans hk.symm))
theorem tsw_out4 {x : Int32} (h0 : ¬ x = 0) (h1 : ¬ x = 1) (h2 : ¬ x = 2) (h3 : ¬ x = 3) : x.toInt < 0 ∨ 3 < x.toInt := by
  have g0 := tsw_ne (n := 0) h0 (by decide)
  have g1 := tsw_ne (n := 1) h1 (by decide)
  have g2 := tsw_ne (n := 2) h2 (by decide)
  have g3 := tsw_ne (n := 3) h3 (by decide)
  omega
theorem tsw_out5 {x : Int32} (h0 : ¬ x = 0) (h1 : ¬ x = 1) (h2 : ¬ x = 2) (h3 : ¬ x = 3) (h4 : ¬ x = 4) : x.toInt < 0 ∨ 4 < x.toInt := by
  have g0 := tsw_ne (n := 0) h0 (by decide)
  have g1 := tsw_ne (n := 1) h1 (by decide)
  have g2 := tsw_ne (n := 2) h2 (by decide)
  have g3 := tsw_ne (n := 3) h3 (by decide)
  have g4 := tsw_ne (n := 4) h4 (by decide)
  omega
theorem tsw_out6 {x : Int32} (h0 : ¬ x = 0) (h1 : ¬ x = 1) (h2 : ¬ x = 2) (h3 : ¬ x = 3) (h4 : ¬ x = 4) (h5 : ¬ x = 5) : x.toInt < 0 ∨ 5 < x.toInt := by
  have g0 := tsw_ne (n := 0) h0 (by decide)
  have g1 := tsw_ne (n := 1) h1 (by decide)
  have g2 := tsw_ne (n := 2) h2 (by decide)
  have g3 := tsw_ne (n := 3) h3 (by decide)
  have g4 := tsw_ne (n := 4) h4 (by decide)
  have g5 := tsw_ne (n := 5) h5 (by decide)
  omega
theorem tsw_out7 {x : Int32} (h0 : ¬ x = 0) (h1 : ¬ x = 1) (h2 : ¬ x = 2) (h3 : ¬ x = 3) (h4 : ¬ x = 4) (h5 : ¬ x = 5) (h6 : ¬ x = 6) : x.toInt < 0 ∨ 6 < x.toInt := by
  have g0 := tsw_ne (n := 0) h0 (by decide)
  have g1 := tsw_ne (n := 1) h1 (by decide)
  have g2 := tsw_ne (n := 2) h2 (by decide)
  have g3 := tsw_ne (n := 3) h3 (by decide)
  have g4 := tsw_ne (n := 4) h4 (by decide)
  have g5 := tsw_ne (n := 5) h5 (by decide)
  have g6 := tsw_ne (n := 6) h6 (by decide)
  omega
theorem obx_0_0 : ∀ c, c < NC → kd c = 0 → (c + 1 < NC ∧ kd (c + 1) = 1) := by decide +kernel
theorem obf_0_0 {c : Nat} (h : Ob c 0) : Ob (c + 1) 1 := obx_0_0 c h.1 h.2
theorem obx_0_1 : ∀ c, c < NC → kd c = 0 → (c + 20 < NC ∧ kd (c + 20) = 8) := by decide +kernel
theorem obf_0_1 {c : Nat} (h : Ob c 0) : Ob (c + 20) 8 := obx_0_1 c h.1 h.2
theorem obx_0_2 : ∀ c, c < NC → kd c = 0 → (c + 21 < NC ∧ kd (c + 21) = 8) := by decide +kernel
theorem obf_0_2 {c : Nat} (h : Ob c 0) : Ob (c + 21) 8 := obx_0_2 c h.1 h.2
theorem obx_0_3 : ∀ c, c < NC → kd c = 0 → (c + 22 < NC ∧ kd (c + 22) = 8) := by decide +kernel
theorem obf_0_3 {c : Nat} (h : Ob c 0) : Ob (c + 22) 8 := obx_0_3 c h.1 h.2
theorem obx_0_4 : ∀ c, c < NC → kd c = 0 → (c + 23 < NC ∧ kd (c + 23) = 8) := by decide +kernel
theorem obf_0_4 {c : Nat} (h : Ob c 0) : Ob (c + 23) 8 := obx_0_4 c h.1 h.2
theorem obx_0_5 : ∀ c, c < NC → kd c = 0 → (c + 24 < NC ∧ kd (c + 24) = 8) := by decide +kernel
theorem obf_0_5 {c : Nat} (h : Ob c 0) : Ob (c + 24) 8 := obx_0_5 c h.1 h.2
theorem obx_0_6 : ∀ c, c < NC → kd c = 0 → (c + 25 < NC ∧ kd (c + 25) = 8) := by decide +kernel
theorem obf_0_6 {c : Nat} (h : Ob c 0) : Ob (c + 25) 8 := obx_0_6 c h.1 h.2
theorem obx_0_7 : ∀ c, c < NC → kd c = 0 → (c + 26 < NC ∧ kd (c + 26) = 8) := by decide +kernel
theorem obf_0_7 {c : Nat} (h : Ob c 0) : Ob (c + 26) 8 := obx_0_7 c h.1 h.2
theorem obx_0_8 : ∀ c, c < NC → kd c = 0 → (c + 27 < NC ∧ kd (c + 27) = 8) := by decide +kernel
theorem obf_0_8 {c : Nat} (h : Ob c 0) : Ob (c + 27) 8 := obx_0_8 c h.1 h.2
theorem obx_0_9 : ∀ c, c < NC → kd c = 0 → (c + 28 < NC ∧ kd (c + 28) = 8) := by decide +kernel
theorem obf_0_9 {c : Nat} (h : Ob c 0) : Ob (c + 28) 8 := obx_0_9 c h.1 h.2
theorem obx_1_0 : ∀ c, c < NC → kd c = 1 → (c + 1 < NC ∧ kd (c + 1) = 5) := by decide +kernel
theorem obf_1_0 {c : Nat} (h : Ob c 1) : Ob (c + 1) 5 := obx_1_0 c h.1 h.2
theorem obx_1_1 : ∀ c, c < NC → kd c = 1 → (c + 8 < NC ∧ kd (c + 8) = 2) := by decide +kernel
theorem obf_1_1 {c : Nat} (h : Ob c 1) : Ob (c + 8) 2 := obx_1_1 c h.1 h.2
theorem obx_2_2 : ∀ c, c < NC → kd c = 2 → (c + 1 < NC ∧ kd (c + 1) = 8) := by decide +kernel
theorem obf_2_2 {c : Nat} (h : Ob c 2) : Ob (c + 1) 8 := obx_2_2 c h.1 h.2
theorem obx_2_3 : ∀ c, c < NC → kd c = 2 → (c + 2 < NC ∧ kd (c + 2) = 8) := by decide +kernel
theorem obf_2_3 {c : Nat} (h : Ob c 2) : Ob (c + 2) 8 := obx_2_3 c h.1 h.2
theorem obx_2_4 : ∀ c, c < NC → kd c = 2 → (c + 3 < NC ∧ kd (c + 3) = 8) := by decide +kernel
theorem obf_2_4 {c : Nat} (h : Ob c 2) : Ob (c + 3) 8 := obx_2_4 c h.1 h.2
theorem obx_2_5 : ∀ c, c < NC → kd c = 2 → (c + 4 < NC ∧ kd (c + 4) = 8) := by decide +kernel
theorem obf_2_5 {c : Nat} (h : Ob c 2) : Ob (c + 4) 8 := obx_2_5 c h.1 h.2
theorem obx_2_6 : ∀ c, c < NC → kd c = 2 → (c + 5 < NC ∧ kd (c + 5) = 8) := by decide +kernel
theorem obf_2_6 {c : Nat} (h : Ob c 2) : Ob (c + 5) 8 := obx_2_6 c h.1 h.2
theorem obx_2_7 : ∀ c, c < NC → kd c = 2 → (c + 6 < NC ∧ kd (c + 6) = 8) := by decide +kernel
theorem obf_2_7 {c : Nat} (h : Ob c 2) : Ob (c + 6) 8 := obx_2_7 c h.1 h.2
theorem obx_2_8 : ∀ c, c < NC → kd c = 2 → (c + 7 < NC ∧ kd (c + 7) = 8) := by decide +kernel
theorem obf_2_8 {c : Nat} (h : Ob c 2) : Ob (c + 7) 8 := obx_2_8 c h.1 h.2
theorem obx_2_9 : ∀ c, c < NC → kd c = 2 → (c + 8 < NC ∧ kd (c + 8) = 8) := by decide +kernel
theorem obf_2_9 {c : Nat} (h : Ob c 2) : Ob (c + 8) 8 := obx_2_9 c h.1 h.2
theorem obx_2_10 : ∀ c, c < NC → kd c = 2 → (c + 9 < NC ∧ kd (c + 9) = 8) := by decide +kernel
theorem obf_2_10 {c : Nat} (h : Ob c 2) : Ob (c + 9) 8 := obx_2_10 c h.1 h.2
theorem obx_2_11 : ∀ c, c < NC → kd c = 2 → (c + 10 < NC ∧ kd (c + 10) = 8) := by decide +kernel
theorem obf_2_11 {c : Nat} (h : Ob c 2) : Ob (c + 10) 8 := obx_2_11 c h.1 h.2
theorem obx_5_1 : ∀ c, c < NC → kd c = 5 → (c + 1 < NC ∧ kd (c + 1) = 8) := by decide +kernel
theorem obf_5_1 {c : Nat} (h : Ob c 5) : Ob (c + 1) 8 := obx_5_1 c h.1 h.2
theorem obx_5_2 : ∀ c, c < NC → kd c = 5 → (c + 2 < NC ∧ kd (c + 2) = 8) := by decide +kernel
theorem obf_5_2 {c : Nat} (h : Ob c 5) : Ob (c + 2) 8 := obx_5_2 c h.1 h.2
theorem obx_5_3 : ∀ c, c < NC → kd c = 5 → (c + 3 < NC ∧ kd (c + 3) = 8) := by decide +kernel
theorem obf_5_3 {c : Nat} (h : Ob c 5) : Ob (c + 3) 8 := obx_5_3 c h.1 h.2
theorem obx_5_4 : ∀ c, c < NC → kd c = 5 → (c + 4 < NC ∧ kd (c + 4) = 8) := by decide +kernel
theorem obf_5_4 {c : Nat} (h : Ob c 5) : Ob (c + 4) 8 := obx_5_4 c h.1 h.2
theorem obx_5_5 : ∀ c, c < NC → kd c = 5 → (c + 5 < NC ∧ kd (c + 5) = 8) := by decide +kernel
theorem obf_5_5 {c : Nat} (h : Ob c 5) : Ob (c + 5) 8 := obx_5_5 c h.1 h.2
theorem obx_5_6 : ∀ c, c < NC → kd c = 5 → (c + 6 < NC ∧ kd (c + 6) = 8) := by decide +kernel
theorem obf_5_6 {c : Nat} (h : Ob c 5) : Ob (c + 6) 8 := obx_5_6 c h.1 h.2
theorem ob_14 : Ob 14 6 := ⟨by decide, rfl⟩
theorem ob_15 : Ob 15 0 := ⟨by decide, rfl⟩
theorem ob_16 : Ob 16 1 := ⟨by decide, rfl⟩
theorem ob_17 : Ob 17 5 := ⟨by decide, rfl⟩
theorem ob_18 : Ob 18 8 := ⟨by decide, rfl⟩
theorem ob_19 : Ob 19 8 := ⟨by decide, rfl⟩
theorem ob_20 : Ob 20 8 := ⟨by decide, rfl⟩
theorem ob_21 : Ob 21 8 := ⟨by decide, rfl⟩
theorem ob_22 : Ob 22 8 := ⟨by decide, rfl⟩
theorem ob_23 : Ob 23 8 := ⟨by decide, rfl⟩
theorem ob_24 : Ob 24 2 := ⟨by decide, rfl⟩
theorem ob_25 : Ob 25 8 := ⟨by decide, rfl⟩
theorem ob_26 : Ob 26 8 := ⟨by decide, rfl⟩
theorem ob_27 : Ob 27 8 := ⟨by decide, rfl⟩
theorem ob_28 : Ob 28 8 := ⟨by decide, rfl⟩
theorem ob_29 : Ob 29 8 := ⟨by decide, rfl⟩
theorem ob_30 : Ob 30 8 := ⟨by decide, rfl⟩
theorem ob_31 : Ob 31 8 := ⟨by decide, rfl⟩
theorem ob_32 : Ob 32 8 := ⟨by decide, rfl⟩
theorem ob_33 : Ob 33 8 := ⟨by decide, rfl⟩
theorem ob_34 : Ob 34 8 := ⟨by decide, rfl⟩
theorem ob_35 : Ob 35 8 := ⟨by decide, rfl⟩
theorem ob_36 : Ob 36 8 := ⟨by decide, rfl⟩
theorem ob_37 : Ob 37 8 := ⟨by decide, rfl⟩
theorem ob_38 : Ob 38 8 := ⟨by decide, rfl⟩
theorem ob_39 : Ob 39 8 := ⟨by decide, rfl⟩
theorem ob_40 : Ob 40 8 := ⟨by decide, rfl⟩
theorem ob_41 : Ob 41 8 := ⟨by decide, rfl⟩
theorem ob_42 : Ob 42 8 := ⟨by decide, rfl⟩
theorem ob_43 : Ob 43 8 := ⟨by decide, rfl⟩
theorem ob_44 : Ob 44 0 := ⟨by decide, rfl⟩
theorem ob_45 : Ob 45 1 := ⟨by decide, rfl⟩
theorem ob_46 : Ob 46 5 := ⟨by decide, rfl⟩
theorem ob_47 : Ob 47 8 := ⟨by decide, rfl⟩
theorem ob_48 : Ob 48 8 := ⟨by decide, rfl⟩
theorem ob_49 : Ob 49 8 := ⟨by decide, rfl⟩
theorem ob_50 : Ob 50 8 := ⟨by decide, rfl⟩
theorem ob_51 : Ob 51 8 := ⟨by decide, rfl⟩
theorem ob_52 : Ob 52 8 := ⟨by decide, rfl⟩
theorem ob_53 : Ob 53 2 := ⟨by decide, rfl⟩
theorem ob_54 : Ob 54 8 := ⟨by decide, rfl⟩
theorem ob_55 : Ob 55 8 := ⟨by decide, rfl⟩
theorem ob_56 : Ob 56 8 := ⟨by decide, rfl⟩
theorem ob_57 : Ob 57 8 := ⟨by decide, rfl⟩
theorem ob_58 : Ob 58 8 := ⟨by decide, rfl⟩
theorem ob_59 : Ob 59 8 := ⟨by decide, rfl⟩
theorem ob_60 : Ob 60 8 := ⟨by decide, rfl⟩
theorem ob_61 : Ob 61 8 := ⟨by decide, rfl⟩
theorem ob_62 : Ob 62 8 := ⟨by decide, rfl⟩
theorem ob_63 : Ob 63 8 := ⟨by decide, rfl⟩
theorem ob_64 : Ob 64 8 := ⟨by decide, rfl⟩
theorem ob_65 : Ob 65 8 := ⟨by decide, rfl⟩
theorem ob_66 : Ob 66 8 := ⟨by decide, rfl⟩
theorem ob_67 : Ob 67 8 := ⟨by decide, rfl⟩
theorem ob_68 : Ob 68 8 := ⟨by decide, rfl⟩
theorem ob_69 : Ob 69 8 := ⟨by decide, rfl⟩
theorem ob_70 : Ob 70 8 := ⟨by decide, rfl⟩
theorem ob_71 : Ob 71 8 := ⟨by decide, rfl⟩
theorem ob_72 : Ob 72 8 := ⟨by decide, rfl⟩
theorem ob_73 : Ob 73 4 := ⟨by decide, rfl⟩
theorem ob_74 : Ob 74 3 := ⟨by decide, rfl⟩
theorem ob_75 : Ob 75 8 := ⟨by decide, rfl⟩
theorem ob_76 : Ob 76 1 := ⟨by decide, rfl⟩
theorem ob_77 : Ob 77 5 := ⟨by decide, rfl⟩
theorem ob_78 : Ob 78 8 := ⟨by decide, rfl⟩
theorem ob_79 : Ob 79 8 := ⟨by decide, rfl⟩
theorem ob_80 : Ob 80 8 := ⟨by decide, rfl⟩
theorem ob_81 : Ob 81 8 := ⟨by decide, rfl⟩
theorem ob_82 : Ob 82 8 := ⟨by decide, rfl⟩
theorem ob_83 : Ob 83 8 := ⟨by decide, rfl⟩
theorem ob_84 : Ob 84 2 := ⟨by decide, rfl⟩
theorem ob_85 : Ob 85 8 := ⟨by decide, rfl⟩
theorem ob_86 : Ob 86 8 := ⟨by decide, rfl⟩
theorem ob_87 : Ob 87 8 := ⟨by decide, rfl⟩
theorem ob_88 : Ob 88 8 := ⟨by decide, rfl⟩
theorem ob_89 : Ob 89 8 := ⟨by decide, rfl⟩
theorem ob_90 : Ob 90 8 := ⟨by decide, rfl⟩
theorem ob_91 : Ob 91 8 := ⟨by decide, rfl⟩
theorem ob_92 : Ob 92 8 := ⟨by decide, rfl⟩
theorem ob_93 : Ob 93 8 := ⟨by decide, rfl⟩
theorem ob_94 : Ob 94 8 := ⟨by decide, rfl⟩
theorem ob_95 : Ob 95 1 := ⟨by decide, rfl⟩
theorem ob_96 : Ob 96 5 := ⟨by decide, rfl⟩
theorem ob_97 : Ob 97 8 := ⟨by decide, rfl⟩
theorem ob_98 : Ob 98 8 := ⟨by decide, rfl⟩
theorem ob_99 : Ob 99 8 := ⟨by decide, rfl⟩
theorem ob_100 : Ob 100 8 := ⟨by decide, rfl⟩
theorem ob_101 : Ob 101 8 := ⟨by decide, rfl⟩
theorem ob_102 : Ob 102 8 := ⟨by decide, rfl⟩
theorem ob_103 : Ob 103 2 := ⟨by decide, rfl⟩
theorem ob_104 : Ob 104 8 := ⟨by decide, rfl⟩
theorem ob_105 : Ob 105 8 := ⟨by decide, rfl⟩
theorem ob_106 : Ob 106 8 := ⟨by decide, rfl⟩
theorem ob_107 : Ob 107 8 := ⟨by decide, rfl⟩
theorem ob_108 : Ob 108 8 := ⟨by decide, rfl⟩
theorem ob_109 : Ob 109 8 := ⟨by decide, rfl⟩
theorem ob_110 : Ob 110 8 := ⟨by decide, rfl⟩
theorem ob_111 : Ob 111 8 := ⟨by decide, rfl⟩
theorem ob_112 : Ob 112 8 := ⟨by decide, rfl⟩
theorem ob_113 : Ob 113 8 := ⟨by decide, rfl⟩
theorem ob_114 : Ob 114 1 := ⟨by decide, rfl⟩
theorem ob_115 : Ob 115 5 := ⟨by decide, rfl⟩
theorem ob_116 : Ob 116 8 := ⟨by decide, rfl⟩
theorem ob_117 : Ob 117 8 := ⟨by decide, rfl⟩
theorem ob_118 : Ob 118 8 := ⟨by decide, rfl⟩
theorem ob_119 : Ob 119 8 := ⟨by decide, rfl⟩
theorem ob_120 : Ob 120 8 := ⟨by decide, rfl⟩
theorem ob_121 : Ob 121 8 := ⟨by decide, rfl⟩
theorem ob_122 : Ob 122 2 := ⟨by decide, rfl⟩
theorem ob_123 : Ob 123 8 := ⟨by decide, rfl⟩
theorem ob_124 : Ob 124 8 := ⟨by decide, rfl⟩
theorem ob_125 : Ob 125 8 := ⟨by decide, rfl⟩
theorem ob_126 : Ob 126 8 := ⟨by decide, rfl⟩
theorem ob_127 : Ob 127 8 := ⟨by decide, rfl⟩
theorem ob_128 : Ob 128 8 := ⟨by decide, rfl⟩
theorem ob_129 : Ob 129 8 := ⟨by decide, rfl⟩
theorem ob_130 : Ob 130 8 := ⟨by decide, rfl⟩
theorem ob_131 : Ob 131 8 := ⟨by decide, rfl⟩
theorem ob_132 : Ob 132 8 := ⟨by decide, rfl⟩