/-! where the cells lie that the law makes -/
def sg (c : Nat) : Nat := if c < 14 then 119 + c else if c < 133 then c - 14 else c
def csF (cI cZ cJ : ClassId) : List va_E := ([] ++ (bN6 cI cZ cJ).map (she 0) ++ (bN7 cI cZ cJ).map (she 119)) ++ [.inl (cJ, 1, .inr (.inl (fun _ => 0)))]
def relE (cI cZ cJ : ClassId) (c : Nat) : va_E :=
  if kd c < 8 then .inr (kd c, (List.range (nfl (kd c))).map (fun k => match rfk (kd c) k c with | some q => .ref (sg q) | none => .int (mem0 c k))) else if kd c = 8 then .inl (cI, ln c, .inl (mem0 c)) else if kd c = 9 then .inl (cZ, ln c, .inl (mem0 c)) else .inl (cJ, ln c, .inr (.inl (fun i => (mem0 c i).toInt64)))
theorem rel_0 (cI cZ cJ : ClassId) : (csF cI cZ cJ)[sg 0]? = some (relE cI cZ cJ 0) := rfl
theorem rel_1 (cI cZ cJ : ClassId) : (csF cI cZ cJ)[sg 1]? = some (relE cI cZ cJ 1) := rfl
theorem rel_2 (cI cZ cJ : ClassId) : (csF cI cZ cJ)[sg 2]? = some (relE cI cZ cJ 2) := rfl
theorem rel_3 (cI cZ cJ : ClassId) : (csF cI cZ cJ)[sg 3]? = some (relE cI cZ cJ 3) := rfl
theorem rel_4 (cI cZ cJ : ClassId) : (csF cI cZ cJ)[sg 4]? = some (relE cI cZ cJ 4) := rfl
theorem rel_5 (cI cZ cJ : ClassId) : (csF cI cZ cJ)[sg 5]? = some (relE cI cZ cJ 5) := rfl
theorem rel_6 (cI cZ cJ : ClassId) : (csF cI cZ cJ)[sg 6]? = some (relE cI cZ cJ 6) := rfl
theorem rel_7 (cI cZ cJ : ClassId) : (csF cI cZ cJ)[sg 7]? = some (relE cI cZ cJ 7) := rfl
theorem rel_8 (cI cZ cJ : ClassId) : (csF cI cZ cJ)[sg 8]? = some (relE cI cZ cJ 8) := rfl
theorem rel_9 (cI cZ cJ : ClassId) : (csF cI cZ cJ)[sg 9]? = some (relE cI cZ cJ 9) := rfl
theorem rel_10 (cI cZ cJ : ClassId) : (csF cI cZ cJ)[sg 10]? = some (relE cI cZ cJ 10) := rfl
theorem rel_11 (cI cZ cJ : ClassId) : (csF cI cZ cJ)[sg 11]? = some (relE cI cZ cJ 11) := rfl
theorem rel_12 (cI cZ cJ : ClassId) : (csF cI cZ cJ)[sg 12]? = some (relE cI cZ cJ 12) := rfl
theorem rel_13 (cI cZ cJ : ClassId) : (csF cI cZ cJ)[sg 13]? = some (relE cI cZ cJ 13) := rfl
theorem rel_14 (cI cZ cJ : ClassId) : (csF cI cZ cJ)[sg 14]? = some (relE cI cZ cJ 14) := rfl
theorem rel_15 (cI cZ cJ : ClassId) : (csF cI cZ cJ)[sg 15]? = some (relE cI cZ cJ 15) := rfl
theorem rel_16 (cI cZ cJ : ClassId) : (csF cI cZ cJ)[sg 16]? = some (relE cI cZ cJ 16) := rfl
theorem rel_17 (cI cZ cJ : ClassId) : (csF cI cZ cJ)[sg 17]? = some (relE cI cZ cJ 17) := rfl
theorem rel_18 (cI cZ cJ : ClassId) : (csF cI cZ cJ)[sg 18]? = some (relE cI cZ cJ 18) := rfl
theorem rel_19 (cI cZ cJ : ClassId) : (csF cI cZ cJ)[sg 19]? = some (relE cI cZ cJ 19) := rfl
theorem rel_20 (cI cZ cJ : ClassId) : (csF cI cZ cJ)[sg 20]? = some (relE cI cZ cJ 20) := rfl
theorem rel_21 (cI cZ cJ : ClassId) : (csF cI cZ cJ)[sg 21]? = some (relE cI cZ cJ 21) := rfl
theorem rel_22 (cI cZ cJ : ClassId) : (csF cI cZ cJ)[sg 22]? = some (relE cI cZ cJ 22) := rfl
theorem rel_23 (cI cZ cJ : ClassId) : (csF cI cZ cJ)[sg 23]? = some (relE cI cZ cJ 23) := rfl
theorem rel_24 (cI cZ cJ : ClassId) : (csF cI cZ cJ)[sg 24]? = some (relE cI cZ cJ 24) := rfl
theorem rel_25 (cI cZ cJ : ClassId) : (csF cI cZ cJ)[sg 25]? = some (relE cI cZ cJ 25) := rfl
theorem rel_26 (cI cZ cJ : ClassId) : (csF cI cZ cJ)[sg 26]? = some (relE cI cZ cJ 26) := rfl
theorem rel_27 (cI cZ cJ : ClassId) : (csF cI cZ cJ)[sg 27]? = some (relE cI cZ cJ 27) := rfl
theorem rel_28 (cI cZ cJ : ClassId) : (csF cI cZ cJ)[sg 28]? = some (relE cI cZ cJ 28) := rfl
theorem rel_29 (cI cZ cJ : ClassId) : (csF cI cZ cJ)[sg 29]? = some (relE cI cZ cJ 29) := rfl
theorem rel_30 (cI cZ cJ : ClassId) : (csF cI cZ cJ)[sg 30]? = some (relE cI cZ cJ 30) := rfl
theorem rel_31 (cI cZ cJ : ClassId) : (csF cI cZ cJ)[sg 31]? = some (relE cI cZ cJ 31) := rfl
theorem rel_32 (cI cZ cJ : ClassId) : (csF cI cZ cJ)[sg 32]? = some (relE cI cZ cJ 32) := rfl
theorem rel_33 (cI cZ cJ : ClassId) : (csF cI cZ cJ)[sg 33]? = some (relE cI cZ cJ 33) := rfl
theorem rel_34 (cI cZ cJ : ClassId) : (csF cI cZ cJ)[sg 34]? = some (relE cI cZ cJ 34) := rfl
theorem rel_35 (cI cZ cJ : ClassId) : (csF cI cZ cJ)[sg 35]? = some (relE cI cZ cJ 35) := rfl
theorem rel_36 (cI cZ cJ : ClassId) : (csF cI cZ cJ)[sg 36]? = some (relE cI cZ cJ 36) := rfl
theorem rel_37 (cI cZ cJ : ClassId) : (csF cI cZ cJ)[sg 37]? = some (relE cI cZ cJ 37) := rfl
theorem rel_38 (cI cZ cJ : ClassId) : (csF cI cZ cJ)[sg 38]? = some (relE cI cZ cJ 38) := rfl
theorem rel_39 (cI cZ cJ : ClassId) : (csF cI cZ cJ)[sg 39]? = some (relE cI cZ cJ 39) := rfl
theorem rel_40 (cI cZ cJ : ClassId) : (csF cI cZ cJ)[sg 40]? = some (relE cI cZ cJ 40) := rfl
theorem rel_41 (cI cZ cJ : ClassId) : (csF cI cZ cJ)[sg 41]? = some (relE cI cZ cJ 41) := rfl
theorem rel_42 (cI cZ cJ : ClassId) : (csF cI cZ cJ)[sg 42]? = some (relE cI cZ cJ 42) := rfl
theorem rel_43 (cI cZ cJ : ClassId) : (csF cI cZ cJ)[sg 43]? = some (relE cI cZ cJ 43) := rfl
theorem rel_44 (cI cZ cJ : ClassId) : (csF cI cZ cJ)[sg 44]? = some (relE cI cZ cJ 44) := rfl
theorem rel_45 (cI cZ cJ : ClassId) : (csF cI cZ cJ)[sg 45]? = some (relE cI cZ cJ 45) := rfl
theorem rel_46 (cI cZ cJ : ClassId) : (csF cI cZ cJ)[sg 46]? = some (relE cI cZ cJ 46) := rfl
theorem rel_47 (cI cZ cJ : ClassId) : (csF cI cZ cJ)[sg 47]? = some (relE cI cZ cJ 47) := rfl
theorem rel_48 (cI cZ cJ : ClassId) : (csF cI cZ cJ)[sg 48]? = some (relE cI cZ cJ 48) := rfl
theorem rel_49 (cI cZ cJ : ClassId) : (csF cI cZ cJ)[sg 49]? = some (relE cI cZ cJ 49) := rfl
theorem rel_50 (cI cZ cJ : ClassId) : (csF cI cZ cJ)[sg 50]? = some (relE cI cZ cJ 50) := rfl
theorem rel_51 (cI cZ cJ : ClassId) : (csF cI cZ cJ)[sg 51]? = some (relE cI cZ cJ 51) := rfl
theorem rel_52 (cI cZ cJ : ClassId) : (csF cI cZ cJ)[sg 52]? = some (relE cI cZ cJ 52) := rfl
theorem rel_53 (cI cZ cJ : ClassId) : (csF cI cZ cJ)[sg 53]? = some (relE cI cZ cJ 53) := rfl
theorem rel_54 (cI cZ cJ : ClassId) : (csF cI cZ cJ)[sg 54]? = some (relE cI cZ cJ 54) := rfl
theorem rel_55 (cI cZ cJ : ClassId) : (csF cI cZ cJ)[sg 55]? = some (relE cI cZ cJ 55) := rfl
theorem rel_56 (cI cZ cJ : ClassId) : (csF cI cZ cJ)[sg 56]? = some (relE cI cZ cJ 56) := rfl
theorem rel_57 (cI cZ cJ : ClassId) : (csF cI cZ cJ)[sg 57]? = some (relE cI cZ cJ 57) := rfl
theorem rel_58 (cI cZ cJ : ClassId) : (csF cI cZ cJ)[sg 58]? = some (relE cI cZ cJ 58) := rfl
theorem rel_59 (cI cZ cJ : ClassId) : (csF cI cZ cJ)[sg 59]? = some (relE cI cZ cJ 59) := rfl
theorem rel_60 (cI cZ cJ : ClassId) : (csF cI cZ cJ)[sg 60]? = some (relE cI cZ cJ 60) := rfl
theorem rel_61 (cI cZ cJ : ClassId) : (csF cI cZ cJ)[sg 61]? = some (relE cI cZ cJ 61) := rfl
theorem rel_62 (cI cZ cJ : ClassId) : (csF cI cZ cJ)[sg 62]? = some (relE cI cZ cJ 62) := rfl
theorem rel_63 (cI cZ cJ : ClassId) : (csF cI cZ cJ)[sg 63]? = some (relE cI cZ cJ 63) := rfl
theorem rel_64 (cI cZ cJ : ClassId) : (csF cI cZ cJ)[sg 64]? = some (relE cI cZ cJ 64) := rfl
theorem rel_65 (cI cZ cJ : ClassId) : (csF cI cZ cJ)[sg 65]? = some (relE cI cZ cJ 65) := rfl
theorem rel_66 (cI cZ cJ : ClassId) : (csF cI cZ cJ)[sg 66]? = some (relE cI cZ cJ 66) := rfl
theorem rel_67 (cI cZ cJ : ClassId) : (csF cI cZ cJ)[sg 67]? = some (relE cI cZ cJ 67) := rfl
theorem rel_68 (cI cZ cJ : ClassId) : (csF cI cZ cJ)[sg 68]? = some (relE cI cZ cJ 68) := rfl
theorem rel_69 (cI cZ cJ : ClassId) : (csF cI cZ cJ)[sg 69]? = some (relE cI cZ cJ 69) := rfl
theorem rel_70 (cI cZ cJ : ClassId) : (csF cI cZ cJ)[sg 70]? = some (relE cI cZ cJ 70) := rfl
theorem rel_71 (cI cZ cJ : ClassId) : (csF cI cZ cJ)[sg 71]? = some (relE cI cZ cJ 71) := rfl
theorem rel_72 (cI cZ cJ : ClassId) : (csF cI cZ cJ)[sg 72]? = some (relE cI cZ cJ 72) := rfl
theorem rel_73 (cI cZ cJ : ClassId) : (csF cI cZ cJ)[sg 73]? = some (relE cI cZ cJ 73) := rfl
theorem rel_74 (cI cZ cJ : ClassId) : (csF cI cZ cJ)[sg 74]? = some (relE cI cZ cJ 74) := rfl
theorem rel_75 (cI cZ cJ : ClassId) : (csF cI cZ cJ)[sg 75]? = some (relE cI cZ cJ 75) := rfl
theorem rel_76 (cI cZ cJ : ClassId) : (csF cI cZ cJ)[sg 76]? = some (relE cI cZ cJ 76) := rfl
theorem rel_77 (cI cZ cJ : ClassId) : (csF cI cZ cJ)[sg 77]? = some (relE cI cZ cJ 77) := rfl
theorem rel_78 (cI cZ cJ : ClassId) : (csF cI cZ cJ)[sg 78]? = some (relE cI cZ cJ 78) := rfl
theorem rel_79 (cI cZ cJ : ClassId) : (csF cI cZ cJ)[sg 79]? = some (relE cI cZ cJ 79) := rfl
theorem rel_80 (cI cZ cJ : ClassId) : (csF cI cZ cJ)[sg 80]? = some (relE cI cZ cJ 80) := rfl
theorem rel_81 (cI cZ cJ : ClassId) : (csF cI cZ cJ)[sg 81]? = some (relE cI cZ cJ 81) := rfl
theorem rel_82 (cI cZ cJ : ClassId) : (csF cI cZ cJ)[sg 82]? = some (relE cI cZ cJ 82) := rfl
theorem rel_83 (cI cZ cJ : ClassId) : (csF cI cZ cJ)[sg 83]? = some (relE cI cZ cJ 83) := rfl
theorem rel_84 (cI cZ cJ : ClassId) : (csF cI cZ cJ)[sg 84]? = some (relE cI cZ cJ 84) := rfl
theorem rel_85 (cI cZ cJ : ClassId) : (csF cI cZ cJ)[sg 85]? = some (relE cI cZ cJ 85) := rfl
theorem rel_86 (cI cZ cJ : ClassId) : (csF cI cZ cJ)[sg 86]? = some (relE cI cZ cJ 86) := rfl
theorem rel_87 (cI cZ cJ : ClassId) : (csF cI cZ cJ)[sg 87]? = some (relE cI cZ cJ 87) := rfl
theorem rel_88 (cI cZ cJ : ClassId) : (csF cI cZ cJ)[sg 88]? = some (relE cI cZ cJ 88) := rfl
theorem rel_89 (cI cZ cJ : ClassId) : (csF cI cZ cJ)[sg 89]? = some (relE cI cZ cJ 89) := rfl
theorem rel_90 (cI cZ cJ : ClassId) : (csF cI cZ cJ)[sg 90]? = some (relE cI cZ cJ 90) := rfl
theorem rel_91 (cI cZ cJ : ClassId) : (csF cI cZ cJ)[sg 91]? = some (relE cI cZ cJ 91) := rfl
theorem rel_92 (cI cZ cJ : ClassId) : (csF cI cZ cJ)[sg 92]? = some (relE cI cZ cJ 92) := rfl
theorem rel_93 (cI cZ cJ : ClassId) : (csF cI cZ cJ)[sg 93]? = some (relE cI cZ cJ 93) := rfl
theorem rel_94 (cI cZ cJ : ClassId) : (csF cI cZ cJ)[sg 94]? = some (relE cI cZ cJ 94) := rfl
theorem rel_95 (cI cZ cJ : ClassId) : (csF cI cZ cJ)[sg 95]? = some (relE cI cZ cJ 95) := rfl
theorem rel_96 (cI cZ cJ : ClassId) : (csF cI cZ cJ)[sg 96]? = some (relE cI cZ cJ 96) := rfl
theorem rel_97 (cI cZ cJ : ClassId) : (csF cI cZ cJ)[sg 97]? = some (relE cI cZ cJ 97) := rfl
theorem rel_98 (cI cZ cJ : ClassId) : (csF cI cZ cJ)[sg 98]? = some (relE cI cZ cJ 98) := rfl
theorem rel_99 (cI cZ cJ : ClassId) : (csF cI cZ cJ)[sg 99]? = some (relE cI cZ cJ 99) := rfl
theorem rel_100 (cI cZ cJ : ClassId) : (csF cI cZ cJ)[sg 100]? = some (relE cI cZ cJ 100) := rfl
theorem rel_101 (cI cZ cJ : ClassId) : (csF cI cZ cJ)[sg 101]? = some (relE cI cZ cJ 101) := rfl
theorem rel_102 (cI cZ cJ : ClassId) : (csF cI cZ cJ)[sg 102]? = some (relE cI cZ cJ 102) := rfl
theorem rel_103 (cI cZ cJ : ClassId) : (csF cI cZ cJ)[sg 103]? = some (relE cI cZ cJ 103) := rfl
theorem rel_104 (cI cZ cJ : ClassId) : (csF cI cZ cJ)[sg 104]? = some (relE cI cZ cJ 104) := rfl
theorem rel_105 (cI cZ cJ : ClassId) : (csF cI cZ cJ)[sg 105]? = some (relE cI cZ cJ 105) := rfl
theorem rel_106 (cI cZ cJ : ClassId) : (csF cI cZ cJ)[sg 106]? = some (relE cI cZ cJ 106) := rfl
theorem rel_107 (cI cZ cJ : ClassId) : (csF cI cZ cJ)[sg 107]? = some (relE cI cZ cJ 107) := rfl
theorem rel_108 (cI cZ cJ : ClassId) : (csF cI cZ cJ)[sg 108]? = some (relE cI cZ cJ 108) := rfl
theorem rel_109 (cI cZ cJ : ClassId) : (csF cI cZ cJ)[sg 109]? = some (relE cI cZ cJ 109) := rfl
theorem rel_110 (cI cZ cJ : ClassId) : (csF cI cZ cJ)[sg 110]? = some (relE cI cZ cJ 110) := rfl
theorem rel_111 (cI cZ cJ : ClassId) : (csF cI cZ cJ)[sg 111]? = some (relE cI cZ cJ 111) := rfl
theorem rel_112 (cI cZ cJ : ClassId) : (csF cI cZ cJ)[sg 112]? = some (relE cI cZ cJ 112) := rfl
theorem rel_113 (cI cZ cJ : ClassId) : (csF cI cZ cJ)[sg 113]? = some (relE cI cZ cJ 113) := rfl
theorem rel_114 (cI cZ cJ : ClassId) : (csF cI cZ cJ)[sg 114]? = some (relE cI cZ cJ 114) := rfl
theorem rel_115 (cI cZ cJ : ClassId) : (csF cI cZ cJ)[sg 115]? = some (relE cI cZ cJ 115) := rfl
theorem rel_116 (cI cZ cJ : ClassId) : (csF cI cZ cJ)[sg 116]? = some (relE cI cZ cJ 116) := rfl
theorem rel_117 (cI cZ cJ : ClassId) : (csF cI cZ cJ)[sg 117]? = some (relE cI cZ cJ 117) := rfl
theorem rel_118 (cI cZ cJ : ClassId) : (csF cI cZ cJ)[sg 118]? = some (relE cI cZ cJ 118) := rfl
theorem rel_119 (cI cZ cJ : ClassId) : (csF cI cZ cJ)[sg 119]? = some (relE cI cZ cJ 119) := rfl
theorem rel_120 (cI cZ cJ : ClassId) : (csF cI cZ cJ)[sg 120]? = some (relE cI cZ cJ 120) := rfl
theorem rel_121 (cI cZ cJ : ClassId) : (csF cI cZ cJ)[sg 121]? = some (relE cI cZ cJ 121) := rfl
theorem rel_122 (cI cZ cJ : ClassId) : (csF cI cZ cJ)[sg 122]? = some (relE cI cZ cJ 122) := rfl
theorem rel_123 (cI cZ cJ : ClassId) : (csF cI cZ cJ)[sg 123]? = some (relE cI cZ cJ 123) := rfl
theorem rel_124 (cI cZ cJ : ClassId) : (csF cI cZ cJ)[sg 124]? = some (relE cI cZ cJ 124) := rfl
theorem rel_125 (cI cZ cJ : ClassId) : (csF cI cZ cJ)[sg 125]? = some (relE cI cZ cJ 125) := rfl
theorem rel_126 (cI cZ cJ : ClassId) : (csF cI cZ cJ)[sg 126]? = some (relE cI cZ cJ 126) := rfl
theorem rel_127 (cI cZ cJ : ClassId) : (csF cI cZ cJ)[sg 127]? = some (relE cI cZ cJ 127) := rfl
theorem rel_128 (cI cZ cJ : ClassId) : (csF cI cZ cJ)[sg 128]? = some (relE cI cZ cJ 128) := rfl
theorem rel_129 (cI cZ cJ : ClassId) : (csF cI cZ cJ)[sg 129]? = some (relE cI cZ cJ 129) := rfl
theorem rel_130 (cI cZ cJ : ClassId) : (csF cI cZ cJ)[sg 130]? = some (relE cI cZ cJ 130) := rfl
theorem rel_131 (cI cZ cJ : ClassId) : (csF cI cZ cJ)[sg 131]? = some (relE cI cZ cJ 131) := rfl
theorem rel_132 (cI cZ cJ : ClassId) : (csF cI cZ cJ)[sg 132]? = some (relE cI cZ cJ 132) := rfl
theorem rel_133 (cI cZ cJ : ClassId) : (csF cI cZ cJ)[sg 133]? = some (relE cI cZ cJ 133) := rfl
theorem rel_ok (cI cZ cJ : ClassId) : ∀ c, c < 134 → (csF cI cZ cJ)[sg c]? = some (relE cI cZ cJ c) := by
  intro c hc
  match c, hc with
  | 0, _ => exact rel_0 cI cZ cJ
  | 1, _ => exact rel_1 cI cZ cJ
  | 2, _ => exact rel_2 cI cZ cJ
  | 3, _ => exact rel_3 cI cZ cJ
  | 4, _ => exact rel_4 cI cZ cJ
  | 5, _ => exact rel_5 cI cZ cJ
  | 6, _ => exact rel_6 cI cZ cJ
  | 7, _ => exact rel_7 cI cZ cJ
  | 8, _ => exact rel_8 cI cZ cJ
  | 9, _ => exact rel_9 cI cZ cJ
  | 10, _ => exact rel_10 cI cZ cJ
  | 11, _ => exact rel_11 cI cZ cJ
  | 12, _ => exact rel_12 cI cZ cJ
  | 13, _ => exact rel_13 cI cZ cJ
  | 14, _ => exact rel_14 cI cZ cJ
  | 15, _ => exact rel_15 cI cZ cJ
  | 16, _ => exact rel_16 cI cZ cJ
  | 17, _ => exact rel_17 cI cZ cJ
  | 18, _ => exact rel_18 cI cZ cJ
  | 19, _ => exact rel_19 cI cZ cJ
  | 20, _ => exact rel_20 cI cZ cJ
  | 21, _ => exact rel_21 cI cZ cJ
  | 22, _ => exact rel_22 cI cZ cJ
  | 23, _ => exact rel_23 cI cZ cJ
  | 24, _ => exact rel_24 cI cZ cJ
  | 25, _ => exact rel_25 cI cZ cJ
  | 26, _ => exact rel_26 cI cZ cJ
  | 27, _ => exact rel_27 cI cZ cJ
  | 28, _ => exact rel_28 cI cZ cJ
  | 29, _ => exact rel_29 cI cZ cJ
  | 30, _ => exact rel_30 cI cZ cJ
  | 31, _ => exact rel_31 cI cZ cJ
  | 32, _ => exact rel_32 cI cZ cJ
  | 33, _ => exact rel_33 cI cZ cJ
  | 34, _ => exact rel_34 cI cZ cJ
  | 35, _ => exact rel_35 cI cZ cJ
  | 36, _ => exact rel_36 cI cZ cJ
  | 37, _ => exact rel_37 cI cZ cJ
  | 38, _ => exact rel_38 cI cZ cJ
  | 39, _ => exact rel_39 cI cZ cJ
  | 40, _ => exact rel_40 cI cZ cJ
  | 41, _ => exact rel_41 cI cZ cJ
  | 42, _ => exact rel_42 cI cZ cJ
  | 43, _ => exact rel_43 cI cZ cJ
  | 44, _ => exact rel_44 cI cZ cJ
  | 45, _ => exact rel_45 cI cZ cJ
  | 46, _ => exact rel_46 cI cZ cJ
  | 47, _ => exact rel_47 cI cZ cJ
  | 48, _ => exact rel_48 cI cZ cJ
  | 49, _ => exact rel_49 cI cZ cJ
  | 50, _ => exact rel_50 cI cZ cJ
  | 51, _ => exact rel_51 cI cZ cJ
  | 52, _ => exact rel_52 cI cZ cJ
  | 53, _ => exact rel_53 cI cZ cJ
  | 54, _ => exact rel_54 cI cZ cJ
  | 55, _ => exact rel_55 cI cZ cJ
  | 56, _ => exact rel_56 cI cZ cJ
  | 57, _ => exact rel_57 cI cZ cJ
  | 58, _ => exact rel_58 cI cZ cJ
  | 59, _ => exact rel_59 cI cZ cJ
  | 60, _ => exact rel_60 cI cZ cJ
  | 61, _ => exact rel_61 cI cZ cJ
  | 62, _ => exact rel_62 cI cZ cJ
  | 63, _ => exact rel_63 cI cZ cJ
  | 64, _ => exact rel_64 cI cZ cJ
  | 65, _ => exact rel_65 cI cZ cJ
  | 66, _ => exact rel_66 cI cZ cJ
  | 67, _ => exact rel_67 cI cZ cJ
  | 68, _ => exact rel_68 cI cZ cJ
  | 69, _ => exact rel_69 cI cZ cJ
  | 70, _ => exact rel_70 cI cZ cJ
  | 71, _ => exact rel_71 cI cZ cJ
  | 72, _ => exact rel_72 cI cZ cJ
  | 73, _ => exact rel_73 cI cZ cJ
  | 74, _ => exact rel_74 cI cZ cJ
  | 75, _ => exact rel_75 cI cZ cJ
  | 76, _ => exact rel_76 cI cZ cJ
  | 77, _ => exact rel_77 cI cZ cJ
  | 78, _ => exact rel_78 cI cZ cJ
  | 79, _ => exact rel_79 cI cZ cJ
  | 80, _ => exact rel_80 cI cZ cJ
  | 81, _ => exact rel_81 cI cZ cJ
  | 82, _ => exact rel_82 cI cZ cJ
  | 83, _ => exact rel_83 cI cZ cJ
  | 84, _ => exact rel_84 cI cZ cJ
  | 85, _ => exact rel_85 cI cZ cJ
  | 86, _ => exact rel_86 cI cZ cJ
  | 87, _ => exact rel_87 cI cZ cJ
  | 88, _ => exact rel_88 cI cZ cJ
  | 89, _ => exact rel_89 cI cZ cJ
  | 90, _ => exact rel_90 cI cZ cJ
  | 91, _ => exact rel_91 cI cZ cJ
  | 92, _ => exact rel_92 cI cZ cJ
  | 93, _ => exact rel_93 cI cZ cJ
  | 94, _ => exact rel_94 cI cZ cJ
  | 95, _ => exact rel_95 cI cZ cJ
  | 96, _ => exact rel_96 cI cZ cJ
  | 97, _ => exact rel_97 cI cZ cJ
  | 98, _ => exact rel_98 cI cZ cJ
  | 99, _ => exact rel_99 cI cZ cJ
  | 100, _ => exact rel_100 cI cZ cJ
  | 101, _ => exact rel_101 cI cZ cJ
  | 102, _ => exact rel_102 cI cZ cJ
  | 103, _ => exact rel_103 cI cZ cJ
  | 104, _ => exact rel_104 cI cZ cJ
  | 105, _ => exact rel_105 cI cZ cJ
  | 106, _ => exact rel_106 cI cZ cJ
  | 107, _ => exact rel_107 cI cZ cJ
  | 108, _ => exact rel_108 cI cZ cJ
  | 109, _ => exact rel_109 cI cZ cJ
  | 110, _ => exact rel_110 cI cZ cJ
  | 111, _ => exact rel_111 cI cZ cJ
  | 112, _ => exact rel_112 cI cZ cJ
  | 113, _ => exact rel_113 cI cZ cJ
  | 114, _ => exact rel_114 cI cZ cJ
  | 115, _ => exact rel_115 cI cZ cJ
  | 116, _ => exact rel_116 cI cZ cJ
  | 117, _ => exact rel_117 cI cZ cJ
  | 118, _ => exact rel_118 cI cZ cJ
  | 119, _ => exact rel_119 cI cZ cJ
  | 120, _ => exact rel_120 cI cZ cJ
  | 121, _ => exact rel_121 cI cZ cJ
  | 122, _ => exact rel_122 cI cZ cJ
  | 123, _ => exact rel_123 cI cZ cJ
  | 124, _ => exact rel_124 cI cZ cJ
  | 125, _ => exact rel_125 cI cZ cJ
  | 126, _ => exact rel_126 cI cZ cJ
  | 127, _ => exact rel_127 cI cZ cJ
  | 128, _ => exact rel_128 cI cZ cJ
  | 129, _ => exact rel_129 cI cZ cJ
  | 130, _ => exact rel_130 cI cZ cJ
  | 131, _ => exact rel_131 cI cZ cJ
  | 132, _ => exact rel_132 cI cZ cJ
  | 133, _ => exact rel_133 cI cZ cJ
  | n + 134, h => omega
