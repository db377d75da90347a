/-! THE CLASS: shapes and references that stay -/
def sh0C : List Sh := [Sh.obj 13, Sh.obj 12, Sh.obj 3, Sh.arr 3 24, Sh.arr 0 24, Sh.arr 0 24, Sh.arr 0 24, Sh.arr 0 1728, Sh.arr 0 1728, Sh.arr 0 25, Sh.obj 6, Sh.arr 0 122, Sh.arr 0 122, Sh.arr 0 122, Sh.arr 0 122, Sh.arr 0 366, Sh.arr 3 366, Sh.arr 0 366, Sh.arr 0 122, Sh.arr 0 732, Sh.arr 0 732, Sh.arr 0 732, Sh.arr 1 732, Sh.arr 1 122, Sh.obj 2, Sh.arr 0 1804, Sh.arr 0 1804, Sh.arr 0 1804, Sh.arr 0 4, Sh.arr 1 72, Sh.arr 1 72, Sh.arr 0 24, Sh.arr 0 24, Sh.arr 0 24, Sh.arr 1 24, Sh.arr 1 24, Sh.arr 1 72, Sh.arr 1 72, Sh.arr 0 24, Sh.arr 0 5, Sh.obj 8, Sh.obj 9, Sh.arr 0 64, Sh.arr 0 64, Sh.arr 1 64, Sh.arr 1 64, Sh.obj 7, Sh.arr 0 64, Sh.obj 10, Sh.arr 0 18, Sh.arr 3 18, Sh.arr 0 36, Sh.arr 0 36, Sh.arr 1 36, Sh.arr 0 37, Sh.arr 1 592, Sh.obj 4, Sh.arr 0 24, Sh.arr 1 24, Sh.arr 1 24, Sh.arr 1 72, Sh.arr 1 72, Sh.arr 0 24, Sh.arr 0 24, Sh.arr 1 64, Sh.arr 1 64, Sh.arr 0 64, Sh.obj 11, Sh.arr 0 24, Sh.arr 0 24, Sh.arr 0 72, Sh.arr 0 3, Sh.arr 0 120, Sh.arr 0 120, Sh.arr 0 120, Sh.obj 10, Sh.arr 0 18, Sh.arr 3 18, Sh.arr 0 36, Sh.arr 0 36, Sh.arr 1 36, Sh.arr 0 37, Sh.arr 1 592, Sh.obj 5, Sh.obj 1, Sh.arr 0 3328, Sh.arr 0 104, Sh.arr 0 104, Sh.arr 3 104, Sh.arr 0 3, Sh.arr 0 120, Sh.arr 0 120, Sh.arr 0 120, Sh.arr 1 2048, Sh.arr 1 832, Sh.arr 1 3, Sh.arr 0 512, Sh.arr 0 512, Sh.arr 0 512, Sh.arr 0 3, Sh.arr 2 256, Sh.arr 1 130]
def cstC (a k : Nat) : Bool := match sh0C[a]? with
  | some (.inl 1) => [0, 1, 2, 5, 6, 7, 8, 9, 10, 11, 15, 16].contains k
  | some (.inl 3) => [0, 1, 2, 3, 5, 6, 7].contains k
  | some (.inl 4) => [0, 1, 2, 3, 4, 5, 6, 7].contains k
  | some (.inl 5) => [0, 1, 2, 3, 4, 15, 17].contains k
  | some (.inl 6) => [1, 2, 3, 4, 5, 6, 7, 8, 9, 10, 11, 12, 13].contains k
  | some (.inl 7) => [0, 1].contains k
  | some (.inl 8) => [0, 1].contains k
  | some (.inl 11) => [0, 1, 2, 3, 4, 5, 6, 7, 8, 10].contains k
  | some (.inl 12) => [0, 1, 2, 3, 4, 5, 6, 7, 8, 9, 10, 11, 12, 13, 17].contains k
  | some (.inl 13) => [0, 1, 2, 3, 4, 5, 6, 7].contains k
  | some (.inl 10) => [0, 1, 2, 4, 5, 6, 8, 9].contains k
  | _ => false
def r0C (a k : Nat) : Rf := match sh0C[a]? with
  | some (.inl 1) => (match k with | 0 => Rf.ptr 1 | 1 => Rf.ptr 46 | 2 => Rf.ptr 56 | 5 => Rf.ptr 85 | 6 => Rf.ptr 86 | 7 => Rf.ptr 87 | 8 => Rf.ptr 88 | 9 => Rf.ptr 101 | 10 => Rf.ptr 89 | 11 => Rf.ptr 90 | 15 => Rf.ptr 91 | 16 => Rf.ptr 92 | _ => Rf.nul)
  | some (.inl 3) => (match k with | 0 => Rf.ptr 3 | 1 => Rf.ptr 4 | 2 => Rf.ptr 5 | 3 => Rf.ptr 6 | 5 => Rf.ptr 7 | 6 => Rf.ptr 8 | 7 => Rf.ptr 9 | _ => Rf.nul)
  | some (.inl 4) => (match k with | 0 => Rf.ptr 1 | 1 => Rf.ptr 57 | 2 => Rf.ptr 58 | 3 => Rf.ptr 59 | 4 => Rf.ptr 60 | 5 => Rf.ptr 61 | 6 => Rf.ptr 62 | 7 => Rf.ptr 63 | _ => Rf.nul)
  | some (.inl 5) => (match k with | 0 => Rf.ptr 1 | 1 => Rf.ptr 84 | 2 => Rf.ptr 93 | 3 => Rf.ptr 94 | 4 => Rf.ptr 95 | 15 => Rf.ptr 96 | 17 => Rf.ptr 97 | _ => Rf.nul)
  | some (.inl 6) => (match k with | 1 => Rf.ptr 11 | 2 => Rf.ptr 12 | 3 => Rf.ptr 13 | 4 => Rf.ptr 14 | 5 => Rf.ptr 15 | 6 => Rf.ptr 16 | 7 => Rf.ptr 17 | 8 => Rf.ptr 18 | 9 => Rf.ptr 19 | 10 => Rf.ptr 20 | 11 => Rf.ptr 21 | 12 => Rf.ptr 22 | 13 => Rf.ptr 23 | _ => Rf.nul)
  | some (.inl 7) => (match k with | 0 => Rf.ptr 1 | 1 => Rf.ptr 48 | _ => Rf.nul)
  | some (.inl 8) => (match k with | 0 => Rf.ptr 1 | 1 => Rf.ptr 41 | _ => Rf.nul)
  | some (.inl 11) => (match k with | 0 => Rf.ptr 1 | 1 => Rf.ptr 46 | 2 => Rf.ptr 75 | 3 => Rf.ptr 68 | 4 => Rf.ptr 69 | 5 => Rf.ptr 70 | 6 => Rf.ptr 71 | 7 => Rf.ptr 72 | 8 => Rf.ptr 73 | 10 => Rf.ptr 74 | _ => Rf.nul)
  | some (.inl 12) => (match k with | 0 => Rf.ptr 2 | 1 => Rf.ptr 10 | 2 => Rf.ptr 24 | 3 => Rf.ptr 28 | 4 => Rf.ptr 29 | 5 => Rf.ptr 30 | 6 => Rf.ptr 31 | 7 => Rf.ptr 32 | 8 => Rf.ptr 33 | 9 => Rf.ptr 34 | 10 => Rf.ptr 35 | 11 => Rf.ptr 36 | 12 => Rf.ptr 37 | 13 => Rf.ptr 38 | 17 => Rf.ptr 39 | _ => Rf.nul)
  | some (.inl 13) => (match k with | 0 => Rf.ptr 1 | 1 => Rf.ptr 40 | 2 => Rf.ptr 46 | 3 => Rf.ptr 56 | 4 => Rf.ptr 67 | 5 => Rf.ptr 83 | 6 => Rf.ptr 98 | 7 => Rf.ptr 99 | _ => Rf.nul)
  | some (.inl 10) => (match k with | 0 => Rf.ptr 1 | 1 => Rf.ptr (a + 1) | 2 => Rf.ptr (a + 2) | 4 => Rf.ptr (a + 3) | 5 => Rf.ptr (a + 4) | 6 => Rf.ptr (a + 5) | 8 => Rf.ptr (a + 6) | 9 => Rf.ptr (a + 7) | _ => Rf.nul)
  | _ => Rf.nul
abbrev ΦC : Fix := (sh0C, cstC, r0C)
theorem t0_0 : sh0C[0]? = some (Sh.obj 13) := rfl
theorem t0_1 : sh0C[1]? = some (Sh.obj 12) := rfl
theorem t0_2 : sh0C[2]? = some (Sh.obj 3) := rfl
theorem t0_3 : sh0C[3]? = some (Sh.arr 3 24) := rfl
theorem t0_4 : sh0C[4]? = some (Sh.arr 0 24) := rfl
theorem t0_5 : sh0C[5]? = some (Sh.arr 0 24) := rfl
theorem t0_6 : sh0C[6]? = some (Sh.arr 0 24) := rfl
theorem t0_7 : sh0C[7]? = some (Sh.arr 0 1728) := rfl
theorem t0_8 : sh0C[8]? = some (Sh.arr 0 1728) := rfl
theorem t0_9 : sh0C[9]? = some (Sh.arr 0 25) := rfl
theorem t0_10 : sh0C[10]? = some (Sh.obj 6) := rfl
theorem t0_11 : sh0C[11]? = some (Sh.arr 0 122) := rfl
theorem t0_12 : sh0C[12]? = some (Sh.arr 0 122) := rfl
theorem t0_13 : sh0C[13]? = some (Sh.arr 0 122) := rfl
theorem t0_14 : sh0C[14]? = some (Sh.arr 0 122) := rfl
theorem t0_15 : sh0C[15]? = some (Sh.arr 0 366) := rfl
theorem t0_16 : sh0C[16]? = some (Sh.arr 3 366) := rfl
theorem t0_17 : sh0C[17]? = some (Sh.arr 0 366) := rfl
theorem t0_18 : sh0C[18]? = some (Sh.arr 0 122) := rfl
theorem t0_19 : sh0C[19]? = some (Sh.arr 0 732) := rfl
theorem t0_20 : sh0C[20]? = some (Sh.arr 0 732) := rfl
theorem t0_21 : sh0C[21]? = some (Sh.arr 0 732) := rfl
theorem t0_22 : sh0C[22]? = some (Sh.arr 1 732) := rfl
theorem t0_23 : sh0C[23]? = some (Sh.arr 1 122) := rfl
theorem t0_24 : sh0C[24]? = some (Sh.obj 2) := rfl
theorem t0_25 : sh0C[25]? = some (Sh.arr 0 1804) := rfl
theorem t0_26 : sh0C[26]? = some (Sh.arr 0 1804) := rfl
theorem t0_27 : sh0C[27]? = some (Sh.arr 0 1804) := rfl
theorem t0_28 : sh0C[28]? = some (Sh.arr 0 4) := rfl
theorem t0_29 : sh0C[29]? = some (Sh.arr 1 72) := rfl
theorem t0_30 : sh0C[30]? = some (Sh.arr 1 72) := rfl
theorem t0_31 : sh0C[31]? = some (Sh.arr 0 24) := rfl
theorem t0_32 : sh0C[32]? = some (Sh.arr 0 24) := rfl
theorem t0_33 : sh0C[33]? = some (Sh.arr 0 24) := rfl
theorem t0_34 : sh0C[34]? = some (Sh.arr 1 24) := rfl
theorem t0_35 : sh0C[35]? = some (Sh.arr 1 24) := rfl
theorem t0_36 : sh0C[36]? = some (Sh.arr 1 72) := rfl
theorem t0_37 : sh0C[37]? = some (Sh.arr 1 72) := rfl
theorem t0_38 : sh0C[38]? = some (Sh.arr 0 24) := rfl
theorem t0_39 : sh0C[39]? = some (Sh.arr 0 5) := rfl
theorem t0_40 : sh0C[40]? = some (Sh.obj 8) := rfl
theorem t0_41 : sh0C[41]? = some (Sh.obj 9) := rfl
theorem t0_42 : sh0C[42]? = some (Sh.arr 0 64) := rfl
theorem t0_43 : sh0C[43]? = some (Sh.arr 0 64) := rfl
theorem t0_44 : sh0C[44]? = some (Sh.arr 1 64) := rfl
theorem t0_45 : sh0C[45]? = some (Sh.arr 1 64) := rfl
theorem t0_46 : sh0C[46]? = some (Sh.obj 7) := rfl
theorem t0_47 : sh0C[47]? = some (Sh.arr 0 64) := rfl
theorem t0_48 : sh0C[48]? = some (Sh.obj 10) := rfl
theorem t0_49 : sh0C[49]? = some (Sh.arr 0 18) := rfl
theorem t0_50 : sh0C[50]? = some (Sh.arr 3 18) := rfl
theorem t0_51 : sh0C[51]? = some (Sh.arr 0 36) := rfl
theorem t0_52 : sh0C[52]? = some (Sh.arr 0 36) := rfl
theorem t0_53 : sh0C[53]? = some (Sh.arr 1 36) := rfl
theorem t0_54 : sh0C[54]? = some (Sh.arr 0 37) := rfl
theorem t0_55 : sh0C[55]? = some (Sh.arr 1 592) := rfl
theorem t0_56 : sh0C[56]? = some (Sh.obj 4) := rfl
theorem t0_57 : sh0C[57]? = some (Sh.arr 0 24) := rfl
theorem t0_58 : sh0C[58]? = some (Sh.arr 1 24) := rfl
theorem t0_59 : sh0C[59]? = some (Sh.arr 1 24) := rfl
theorem t0_60 : sh0C[60]? = some (Sh.arr 1 72) := rfl
theorem t0_61 : sh0C[61]? = some (Sh.arr 1 72) := rfl
theorem t0_62 : sh0C[62]? = some (Sh.arr 0 24) := rfl
theorem t0_63 : sh0C[63]? = some (Sh.arr 0 24) := rfl
theorem t0_64 : sh0C[64]? = some (Sh.arr 1 64) := rfl
theorem t0_65 : sh0C[65]? = some (Sh.arr 1 64) := rfl
theorem t0_66 : sh0C[66]? = some (Sh.arr 0 64) := rfl
theorem t0_67 : sh0C[67]? = some (Sh.obj 11) := rfl
theorem t0_68 : sh0C[68]? = some (Sh.arr 0 24) := rfl
theorem t0_69 : sh0C[69]? = some (Sh.arr 0 24) := rfl
theorem t0_70 : sh0C[70]? = some (Sh.arr 0 72) := rfl
theorem t0_71 : sh0C[71]? = some (Sh.arr 0 3) := rfl
theorem t0_72 : sh0C[72]? = some (Sh.arr 0 120) := rfl
theorem t0_73 : sh0C[73]? = some (Sh.arr 0 120) := rfl
theorem t0_74 : sh0C[74]? = some (Sh.arr 0 120) := rfl
theorem t0_75 : sh0C[75]? = some (Sh.obj 10) := rfl
theorem t0_76 : sh0C[76]? = some (Sh.arr 0 18) := rfl
theorem t0_77 : sh0C[77]? = some (Sh.arr 3 18) := rfl
theorem t0_78 : sh0C[78]? = some (Sh.arr 0 36) := rfl
theorem t0_79 : sh0C[79]? = some (Sh.arr 0 36) := rfl
theorem t0_80 : sh0C[80]? = some (Sh.arr 1 36) := rfl
theorem t0_81 : sh0C[81]? = some (Sh.arr 0 37) := rfl
theorem t0_82 : sh0C[82]? = some (Sh.arr 1 592) := rfl
theorem t0_83 : sh0C[83]? = some (Sh.obj 5) := rfl
theorem t0_84 : sh0C[84]? = some (Sh.obj 1) := rfl
theorem t0_85 : sh0C[85]? = some (Sh.arr 0 3328) := rfl
theorem t0_86 : sh0C[86]? = some (Sh.arr 0 104) := rfl
theorem t0_87 : sh0C[87]? = some (Sh.arr 0 104) := rfl
theorem t0_88 : sh0C[88]? = some (Sh.arr 3 104) := rfl
theorem t0_89 : sh0C[89]? = some (Sh.arr 0 3) := rfl
theorem t0_90 : sh0C[90]? = some (Sh.arr 0 120) := rfl
theorem t0_91 : sh0C[91]? = some (Sh.arr 0 120) := rfl
theorem t0_92 : sh0C[92]? = some (Sh.arr 0 120) := rfl
theorem t0_93 : sh0C[93]? = some (Sh.arr 1 2048) := rfl
theorem t0_94 : sh0C[94]? = some (Sh.arr 1 832) := rfl
theorem t0_95 : sh0C[95]? = some (Sh.arr 1 3) := rfl
theorem t0_96 : sh0C[96]? = some (Sh.arr 0 512) := rfl
theorem t0_97 : sh0C[97]? = some (Sh.arr 0 512) := rfl
theorem t0_98 : sh0C[98]? = some (Sh.arr 0 512) := rfl
theorem t0_99 : sh0C[99]? = some (Sh.arr 0 3) := rfl
theorem t0_100 : sh0C[100]? = some (Sh.arr 2 256) := rfl
theorem t0_101 : sh0C[101]? = some (Sh.arr 1 130) := rfl
theorem rC_1_0 {sh : List Sh} {r : Nat → Nat → Rf} (F : FX ΦC sh r) {a : Nat} (p : sh0C[a]? = some (Sh.obj 1)) : r a 0 = Rf.ptr 1 := (F.r (a := a) (k := 0) (by show cstC a 0 = true; unfold cstC; rw [p]; rfl)).trans (by show r0C a 0 = Rf.ptr 1; unfold r0C; rw [p]; rfl)
theorem rC_1_1 {sh : List Sh} {r : Nat → Nat → Rf} (F : FX ΦC sh r) {a : Nat} (p : sh0C[a]? = some (Sh.obj 1)) : r a 1 = Rf.ptr 46 := (F.r (a := a) (k := 1) (by show cstC a 1 = true; unfold cstC; rw [p]; rfl)).trans (by show r0C a 1 = Rf.ptr 46; unfold r0C; rw [p]; rfl)
theorem rC_1_2 {sh : List Sh} {r : Nat → Nat → Rf} (F : FX ΦC sh r) {a : Nat} (p : sh0C[a]? = some (Sh.obj 1)) : r a 2 = Rf.ptr 56 := (F.r (a := a) (k := 2) (by show cstC a 2 = true; unfold cstC; rw [p]; rfl)).trans (by show r0C a 2 = Rf.ptr 56; unfold r0C; rw [p]; rfl)
theorem rC_1_5 {sh : List Sh} {r : Nat → Nat → Rf} (F : FX ΦC sh r) {a : Nat} (p : sh0C[a]? = some (Sh.obj 1)) : r a 5 = Rf.ptr 85 := (F.r (a := a) (k := 5) (by show cstC a 5 = true; unfold cstC; rw [p]; rfl)).trans (by show r0C a 5 = Rf.ptr 85; unfold r0C; rw [p]; rfl)
theorem rC_1_6 {sh : List Sh} {r : Nat → Nat → Rf} (F : FX ΦC sh r) {a : Nat} (p : sh0C[a]? = some (Sh.obj 1)) : r a 6 = Rf.ptr 86 := (F.r (a := a) (k := 6) (by show cstC a 6 = true; unfold cstC; rw [p]; rfl)).trans (by show r0C a 6 = Rf.ptr 86; unfold r0C; rw [p]; rfl)
theorem rC_1_7 {sh : List Sh} {r : Nat → Nat → Rf} (F : FX ΦC sh r) {a : Nat} (p : sh0C[a]? = some (Sh.obj 1)) : r a 7 = Rf.ptr 87 := (F.r (a := a) (k := 7) (by show cstC a 7 = true; unfold cstC; rw [p]; rfl)).trans (by show r0C a 7 = Rf.ptr 87; unfold r0C; rw [p]; rfl)
theorem rC_1_8 {sh : List Sh} {r : Nat → Nat → Rf} (F : FX ΦC sh r) {a : Nat} (p : sh0C[a]? = some (Sh.obj 1)) : r a 8 = Rf.ptr 88 := (F.r (a := a) (k := 8) (by show cstC a 8 = true; unfold cstC; rw [p]; rfl)).trans (by show r0C a 8 = Rf.ptr 88; unfold r0C; rw [p]; rfl)
theorem rC_1_9 {sh : List Sh} {r : Nat → Nat → Rf} (F : FX ΦC sh r) {a : Nat} (p : sh0C[a]? = some (Sh.obj 1)) : r a 9 = Rf.ptr 101 := (F.r (a := a) (k := 9) (by show cstC a 9 = true; unfold cstC; rw [p]; rfl)).trans (by show r0C a 9 = Rf.ptr 101; unfold r0C; rw [p]; rfl)
theorem rC_1_10 {sh : List Sh} {r : Nat → Nat → Rf} (F : FX ΦC sh r) {a : Nat} (p : sh0C[a]? = some (Sh.obj 1)) : r a 10 = Rf.ptr 89 := (F.r (a := a) (k := 10) (by show cstC a 10 = true; unfold cstC; rw [p]; rfl)).trans (by show r0C a 10 = Rf.ptr 89; unfold r0C; rw [p]; rfl)
theorem rC_1_11 {sh : List Sh} {r : Nat → Nat → Rf} (F : FX ΦC sh r) {a : Nat} (p : sh0C[a]? = some (Sh.obj 1)) : r a 11 = Rf.ptr 90 := (F.r (a := a) (k := 11) (by show cstC a 11 = true; unfold cstC; rw [p]; rfl)).trans (by show r0C a 11 = Rf.ptr 90; unfold r0C; rw [p]; rfl)
theorem rC_1_15 {sh : List Sh} {r : Nat → Nat → Rf} (F : FX ΦC sh r) {a : Nat} (p : sh0C[a]? = some (Sh.obj 1)) : r a 15 = Rf.ptr 91 := (F.r (a := a) (k := 15) (by show cstC a 15 = true; unfold cstC; rw [p]; rfl)).trans (by show r0C a 15 = Rf.ptr 91; unfold r0C; rw [p]; rfl)
theorem rC_1_16 {sh : List Sh} {r : Nat → Nat → Rf} (F : FX ΦC sh r) {a : Nat} (p : sh0C[a]? = some (Sh.obj 1)) : r a 16 = Rf.ptr 92 := (F.r (a := a) (k := 16) (by show cstC a 16 = true; unfold cstC; rw [p]; rfl)).trans (by show r0C a 16 = Rf.ptr 92; unfold r0C; rw [p]; rfl)
theorem rC_3_0 {sh : List Sh} {r : Nat → Nat → Rf} (F : FX ΦC sh r) {a : Nat} (p : sh0C[a]? = some (Sh.obj 3)) : r a 0 = Rf.ptr 3 := (F.r (a := a) (k := 0) (by show cstC a 0 = true; unfold cstC; rw [p]; rfl)).trans (by show r0C a 0 = Rf.ptr 3; unfold r0C; rw [p]; rfl)
theorem rC_3_1 {sh : List Sh} {r : Nat → Nat → Rf} (F : FX ΦC sh r) {a : Nat} (p : sh0C[a]? = some (Sh.obj 3)) : r a 1 = Rf.ptr 4 := (F.r (a := a) (k := 1) (by show cstC a 1 = true; unfold cstC; rw [p]; rfl)).trans (by show r0C a 1 = Rf.ptr 4; unfold r0C; rw [p]; rfl)
theorem rC_3_2 {sh : List Sh} {r : Nat → Nat → Rf} (F : FX ΦC sh r) {a : Nat} (p : sh0C[a]? = some (Sh.obj 3)) : r a 2 = Rf.ptr 5 := (F.r (a := a) (k := 2) (by show cstC a 2 = true; unfold cstC; rw [p]; rfl)).trans (by show r0C a 2 = Rf.ptr 5; unfold r0C; rw [p]; rfl)
theorem rC_3_3 {sh : List Sh} {r : Nat → Nat → Rf} (F : FX ΦC sh r) {a : Nat} (p : sh0C[a]? = some (Sh.obj 3)) : r a 3 = Rf.ptr 6 := (F.r (a := a) (k := 3) (by show cstC a 3 = true; unfold cstC; rw [p]; rfl)).trans (by show r0C a 3 = Rf.ptr 6; unfold r0C; rw [p]; rfl)
theorem rC_3_5 {sh : List Sh} {r : Nat → Nat → Rf} (F : FX ΦC sh r) {a : Nat} (p : sh0C[a]? = some (Sh.obj 3)) : r a 5 = Rf.ptr 7 := (F.r (a := a) (k := 5) (by show cstC a 5 = true; unfold cstC; rw [p]; rfl)).trans (by show r0C a 5 = Rf.ptr 7; unfold r0C; rw [p]; rfl)
theorem rC_3_6 {sh : List Sh} {r : Nat → Nat → Rf} (F : FX ΦC sh r) {a : Nat} (p : sh0C[a]? = some (Sh.obj 3)) : r a 6 = Rf.ptr 8 := (F.r (a := a) (k := 6) (by show cstC a 6 = true; unfold cstC; rw [p]; rfl)).trans (by show r0C a 6 = Rf.ptr 8; unfold r0C; rw [p]; rfl)
theorem rC_3_7 {sh : List Sh} {r : Nat → Nat → Rf} (F : FX ΦC sh r) {a : Nat} (p : sh0C[a]? = some (Sh.obj 3)) : r a 7 = Rf.ptr 9 := (F.r (a := a) (k := 7) (by show cstC a 7 = true; unfold cstC; rw [p]; rfl)).trans (by show r0C a 7 = Rf.ptr 9; unfold r0C; rw [p]; rfl)
theorem rC_4_0 {sh : List Sh} {r : Nat → Nat → Rf} (F : FX ΦC sh r) {a : Nat} (p : sh0C[a]? = some (Sh.obj 4)) : r a 0 = Rf.ptr 1 := (F.r (a := a) (k := 0) (by show cstC a 0 = true; unfold cstC; rw [p]; rfl)).trans (by show r0C a 0 = Rf.ptr 1; unfold r0C; rw [p]; rfl)
theorem rC_4_1 {sh : List Sh} {r : Nat → Nat → Rf} (F : FX ΦC sh r) {a : Nat} (p : sh0C[a]? = some (Sh.obj 4)) : r a 1 = Rf.ptr 57 := (F.r (a := a) (k := 1) (by show cstC a 1 = true; unfold cstC; rw [p]; rfl)).trans (by show r0C a 1 = Rf.ptr 57; unfold r0C; rw [p]; rfl)
theorem rC_4_2 {sh : List Sh} {r : Nat → Nat → Rf} (F : FX ΦC sh r) {a : Nat} (p : sh0C[a]? = some (Sh.obj 4)) : r a 2 = Rf.ptr 58 := (F.r (a := a) (k := 2) (by show cstC a 2 = true; unfold cstC; rw [p]; rfl)).trans (by show r0C a 2 = Rf.ptr 58; unfold r0C; rw [p]; rfl)
theorem rC_4_3 {sh : List Sh} {r : Nat → Nat → Rf} (F : FX ΦC sh r) {a : Nat} (p : sh0C[a]? = some (Sh.obj 4)) : r a 3 = Rf.ptr 59 := (F.r (a := a) (k := 3) (by show cstC a 3 = true; unfold cstC; rw [p]; rfl)).trans (by show r0C a 3 = Rf.ptr 59; unfold r0C; rw [p]; rfl)
theorem rC_4_4 {sh : List Sh} {r : Nat → Nat → Rf} (F : FX ΦC sh r) {a : Nat} (p : sh0C[a]? = some (Sh.obj 4)) : r a 4 = Rf.ptr 60 := (F.r (a := a) (k := 4) (by show cstC a 4 = true; unfold cstC; rw [p]; rfl)).trans (by show r0C a 4 = Rf.ptr 60; unfold r0C; rw [p]; rfl)
theorem rC_4_5 {sh : List Sh} {r : Nat → Nat → Rf} (F : FX ΦC sh r) {a : Nat} (p : sh0C[a]? = some (Sh.obj 4)) : r a 5 = Rf.ptr 61 := (F.r (a := a) (k := 5) (by show cstC a 5 = true; unfold cstC; rw [p]; rfl)).trans (by show r0C a 5 = Rf.ptr 61; unfold r0C; rw [p]; rfl)
theorem rC_4_6 {sh : List Sh} {r : Nat → Nat → Rf} (F : FX ΦC sh r) {a : Nat} (p : sh0C[a]? = some (Sh.obj 4)) : r a 6 = Rf.ptr 62 := (F.r (a := a) (k := 6) (by show cstC a 6 = true; unfold cstC; rw [p]; rfl)).trans (by show r0C a 6 = Rf.ptr 62; unfold r0C; rw [p]; rfl)
theorem rC_4_7 {sh : List Sh} {r : Nat → Nat → Rf} (F : FX ΦC sh r) {a : Nat} (p : sh0C[a]? = some (Sh.obj 4)) : r a 7 = Rf.ptr 63 := (F.r (a := a) (k := 7) (by show cstC a 7 = true; unfold cstC; rw [p]; rfl)).trans (by show r0C a 7 = Rf.ptr 63; unfold r0C; rw [p]; rfl)
theorem rC_5_0 {sh : List Sh} {r : Nat → Nat → Rf} (F : FX ΦC sh r) {a : Nat} (p : sh0C[a]? = some (Sh.obj 5)) : r a 0 = Rf.ptr 1 := (F.r (a := a) (k := 0) (by show cstC a 0 = true; unfold cstC; rw [p]; rfl)).trans (by show r0C a 0 = Rf.ptr 1; unfold r0C; rw [p]; rfl)
theorem rC_5_1 {sh : List Sh} {r : Nat → Nat → Rf} (F : FX ΦC sh r) {a : Nat} (p : sh0C[a]? = some (Sh.obj 5)) : r a 1 = Rf.ptr 84 := (F.r (a := a) (k := 1) (by show cstC a 1 = true; unfold cstC; rw [p]; rfl)).trans (by show r0C a 1 = Rf.ptr 84; unfold r0C; rw [p]; rfl)
theorem rC_5_2 {sh : List Sh} {r : Nat → Nat → Rf} (F : FX ΦC sh r) {a : Nat} (p : sh0C[a]? = some (Sh.obj 5)) : r a 2 = Rf.ptr 93 := (F.r (a := a) (k := 2) (by show cstC a 2 = true; unfold cstC; rw [p]; rfl)).trans (by show r0C a 2 = Rf.ptr 93; unfold r0C; rw [p]; rfl)
theorem rC_5_3 {sh : List Sh} {r : Nat → Nat → Rf} (F : FX ΦC sh r) {a : Nat} (p : sh0C[a]? = some (Sh.obj 5)) : r a 3 = Rf.ptr 94 := (F.r (a := a) (k := 3) (by show cstC a 3 = true; unfold cstC; rw [p]; rfl)).trans (by show r0C a 3 = Rf.ptr 94; unfold r0C; rw [p]; rfl)
theorem rC_5_4 {sh : List Sh} {r : Nat → Nat → Rf} (F : FX ΦC sh r) {a : Nat} (p : sh0C[a]? = some (Sh.obj 5)) : r a 4 = Rf.ptr 95 := (F.r (a := a) (k := 4) (by show cstC a 4 = true; unfold cstC; rw [p]; rfl)).trans (by show r0C a 4 = Rf.ptr 95; unfold r0C; rw [p]; rfl)
theorem rC_5_15 {sh : List Sh} {r : Nat → Nat → Rf} (F : FX ΦC sh r) {a : Nat} (p : sh0C[a]? = some (Sh.obj 5)) : r a 15 = Rf.ptr 96 := (F.r (a := a) (k := 15) (by show cstC a 15 = true; unfold cstC; rw [p]; rfl)).trans (by show r0C a 15 = Rf.ptr 96; unfold r0C; rw [p]; rfl)
theorem rC_5_17 {sh : List Sh} {r : Nat → Nat → Rf} (F : FX ΦC sh r) {a : Nat} (p : sh0C[a]? = some (Sh.obj 5)) : r a 17 = Rf.ptr 97 := (F.r (a := a) (k := 17) (by show cstC a 17 = true; unfold cstC; rw [p]; rfl)).trans (by show r0C a 17 = Rf.ptr 97; unfold r0C; rw [p]; rfl)
theorem rC_6_1 {sh : List Sh} {r : Nat → Nat → Rf} (F : FX ΦC sh r) {a : Nat} (p : sh0C[a]? = some (Sh.obj 6)) : r a 1 = Rf.ptr 11 := (F.r (a := a) (k := 1) (by show cstC a 1 = true; unfold cstC; rw [p]; rfl)).trans (by show r0C a 1 = Rf.ptr 11; unfold r0C; rw [p]; rfl)
theorem rC_6_2 {sh : List Sh} {r : Nat → Nat → Rf} (F : FX ΦC sh r) {a : Nat} (p : sh0C[a]? = some (Sh.obj 6)) : r a 2 = Rf.ptr 12 := (F.r (a := a) (k := 2) (by show cstC a 2 = true; unfold cstC; rw [p]; rfl)).trans (by show r0C a 2 = Rf.ptr 12; unfold r0C; rw [p]; rfl)
theorem rC_6_3 {sh : List Sh} {r : Nat → Nat → Rf} (F : FX ΦC sh r) {a : Nat} (p : sh0C[a]? = some (Sh.obj 6)) : r a 3 = Rf.ptr 13 := (F.r (a := a) (k := 3) (by show cstC a 3 = true; unfold cstC; rw [p]; rfl)).trans (by show r0C a 3 = Rf.ptr 13; unfold r0C; rw [p]; rfl)
theorem rC_6_4 {sh : List Sh} {r : Nat → Nat → Rf} (F : FX ΦC sh r) {a : Nat} (p : sh0C[a]? = some (Sh.obj 6)) : r a 4 = Rf.ptr 14 := (F.r (a := a) (k := 4) (by show cstC a 4 = true; unfold cstC; rw [p]; rfl)).trans (by show r0C a 4 = Rf.ptr 14; unfold r0C; rw [p]; rfl)
theorem rC_6_5 {sh : List Sh} {r : Nat → Nat → Rf} (F : FX ΦC sh r) {a : Nat} (p : sh0C[a]? = some (Sh.obj 6)) : r a 5 = Rf.ptr 15 := (F.r (a := a) (k := 5) (by show cstC a 5 = true; unfold cstC; rw [p]; rfl)).trans (by show r0C a 5 = Rf.ptr 15; unfold r0C; rw [p]; rfl)
theorem rC_6_6 {sh : List Sh} {r : Nat → Nat → Rf} (F : FX ΦC sh r) {a : Nat} (p : sh0C[a]? = some (Sh.obj 6)) : r a 6 = Rf.ptr 16 := (F.r (a := a) (k := 6) (by show cstC a 6 = true; unfold cstC; rw [p]; rfl)).trans (by show r0C a 6 = Rf.ptr 16; unfold r0C; rw [p]; rfl)
theorem rC_6_7 {sh : List Sh} {r : Nat → Nat → Rf} (F : FX ΦC sh r) {a : Nat} (p : sh0C[a]? = some (Sh.obj 6)) : r a 7 = Rf.ptr 17 := (F.r (a := a) (k := 7) (by show cstC a 7 = true; unfold cstC; rw [p]; rfl)).trans (by show r0C a 7 = Rf.ptr 17; unfold r0C; rw [p]; rfl)
theorem rC_6_8 {sh : List Sh} {r : Nat → Nat → Rf} (F : FX ΦC sh r) {a : Nat} (p : sh0C[a]? = some (Sh.obj 6)) : r a 8 = Rf.ptr 18 := (F.r (a := a) (k := 8) (by show cstC a 8 = true; unfold cstC; rw [p]; rfl)).trans (by show r0C a 8 = Rf.ptr 18; unfold r0C; rw [p]; rfl)
theorem rC_6_9 {sh : List Sh} {r : Nat → Nat → Rf} (F : FX ΦC sh r) {a : Nat} (p : sh0C[a]? = some (Sh.obj 6)) : r a 9 = Rf.ptr 19 := (F.r (a := a) (k := 9) (by show cstC a 9 = true; unfold cstC; rw [p]; rfl)).trans (by show r0C a 9 = Rf.ptr 19; unfold r0C; rw [p]; rfl)
theorem rC_6_10 {sh : List Sh} {r : Nat → Nat → Rf} (F : FX ΦC sh r) {a : Nat} (p : sh0C[a]? = some (Sh.obj 6)) : r a 10 = Rf.ptr 20 := (F.r (a := a) (k := 10) (by show cstC a 10 = true; unfold cstC; rw [p]; rfl)).trans (by show r0C a 10 = Rf.ptr 20; unfold r0C; rw [p]; rfl)
theorem rC_6_11 {sh : List Sh} {r : Nat → Nat → Rf} (F : FX ΦC sh r) {a : Nat} (p : sh0C[a]? = some (Sh.obj 6)) : r a 11 = Rf.ptr 21 := (F.r (a := a) (k := 11) (by show cstC a 11 = true; unfold cstC; rw [p]; rfl)).trans (by show r0C a 11 = Rf.ptr 21; unfold r0C; rw [p]; rfl)
theorem rC_6_12 {sh : List Sh} {r : Nat → Nat → Rf} (F : FX ΦC sh r) {a : Nat} (p : sh0C[a]? = some (Sh.obj 6)) : r a 12 = Rf.ptr 22 := (F.r (a := a) (k := 12) (by show cstC a 12 = true; unfold cstC; rw [p]; rfl)).trans (by show r0C a 12 = Rf.ptr 22; unfold r0C; rw [p]; rfl)
theorem rC_6_13 {sh : List Sh} {r : Nat → Nat → Rf} (F : FX ΦC sh r) {a : Nat} (p : sh0C[a]? = some (Sh.obj 6)) : r a 13 = Rf.ptr 23 := (F.r (a := a) (k := 13) (by show cstC a 13 = true; unfold cstC; rw [p]; rfl)).trans (by show r0C a 13 = Rf.ptr 23; unfold r0C; rw [p]; rfl)
theorem rC_7_0 {sh : List Sh} {r : Nat → Nat → Rf} (F : FX ΦC sh r) {a : Nat} (p : sh0C[a]? = some (Sh.obj 7)) : r a 0 = Rf.ptr 1 := (F.r (a := a) (k := 0) (by show cstC a 0 = true; unfold cstC; rw [p]; rfl)).trans (by show r0C a 0 = Rf.ptr 1; unfold r0C; rw [p]; rfl)
theorem rC_7_1 {sh : List Sh} {r : Nat → Nat → Rf} (F : FX ΦC sh r) {a : Nat} (p : sh0C[a]? = some (Sh.obj 7)) : r a 1 = Rf.ptr 48 := (F.r (a := a) (k := 1) (by show cstC a 1 = true; unfold cstC; rw [p]; rfl)).trans (by show r0C a 1 = Rf.ptr 48; unfold r0C; rw [p]; rfl)
theorem rC_8_0 {sh : List Sh} {r : Nat → Nat → Rf} (F : FX ΦC sh r) {a : Nat} (p : sh0C[a]? = some (Sh.obj 8)) : r a 0 = Rf.ptr 1 := (F.r (a := a) (k := 0) (by show cstC a 0 = true; unfold cstC; rw [p]; rfl)).trans (by show r0C a 0 = Rf.ptr 1; unfold r0C; rw [p]; rfl)
theorem rC_8_1 {sh : List Sh} {r : Nat → Nat → Rf} (F : FX ΦC sh r) {a : Nat} (p : sh0C[a]? = some (Sh.obj 8)) : r a 1 = Rf.ptr 41 := (F.r (a := a) (k := 1) (by show cstC a 1 = true; unfold cstC; rw [p]; rfl)).trans (by show r0C a 1 = Rf.ptr 41; unfold r0C; rw [p]; rfl)
theorem rC_11_0 {sh : List Sh} {r : Nat → Nat → Rf} (F : FX ΦC sh r) {a : Nat} (p : sh0C[a]? = some (Sh.obj 11)) : r a 0 = Rf.ptr 1 := (F.r (a := a) (k := 0) (by show cstC a 0 = true; unfold cstC; rw [p]; rfl)).trans (by show r0C a 0 = Rf.ptr 1; unfold r0C; rw [p]; rfl)
theorem rC_11_1 {sh : List Sh} {r : Nat → Nat → Rf} (F : FX ΦC sh r) {a : Nat} (p : sh0C[a]? = some (Sh.obj 11)) : r a 1 = Rf.ptr 46 := (F.r (a := a) (k := 1) (by show cstC a 1 = true; unfold cstC; rw [p]; rfl)).trans (by show r0C a 1 = Rf.ptr 46; unfold r0C; rw [p]; rfl)
theorem rC_11_2 {sh : List Sh} {r : Nat → Nat → Rf} (F : FX ΦC sh r) {a : Nat} (p : sh0C[a]? = some (Sh.obj 11)) : r a 2 = Rf.ptr 75 := (F.r (a := a) (k := 2) (by show cstC a 2 = true; unfold cstC; rw [p]; rfl)).trans (by show r0C a 2 = Rf.ptr 75; unfold r0C; rw [p]; rfl)
theorem rC_11_3 {sh : List Sh} {r : Nat → Nat → Rf} (F : FX ΦC sh r) {a : Nat} (p : sh0C[a]? = some (Sh.obj 11)) : r a 3 = Rf.ptr 68 := (F.r (a := a) (k := 3) (by show cstC a 3 = true; unfold cstC; rw [p]; rfl)).trans (by show r0C a 3 = Rf.ptr 68; unfold r0C; rw [p]; rfl)
theorem rC_11_4 {sh : List Sh} {r : Nat → Nat → Rf} (F : FX ΦC sh r) {a : Nat} (p : sh0C[a]? = some (Sh.obj 11)) : r a 4 = Rf.ptr 69 := (F.r (a := a) (k := 4) (by show cstC a 4 = true; unfold cstC; rw [p]; rfl)).trans (by show r0C a 4 = Rf.ptr 69; unfold r0C; rw [p]; rfl)
theorem rC_11_5 {sh : List Sh} {r : Nat → Nat → Rf} (F : FX ΦC sh r) {a : Nat} (p : sh0C[a]? = some (Sh.obj 11)) : r a 5 = Rf.ptr 70 := (F.r (a := a) (k := 5) (by show cstC a 5 = true; unfold cstC; rw [p]; rfl)).trans (by show r0C a 5 = Rf.ptr 70; unfold r0C; rw [p]; rfl)
theorem rC_11_6 {sh : List Sh} {r : Nat → Nat → Rf} (F : FX ΦC sh r) {a : Nat} (p : sh0C[a]? = some (Sh.obj 11)) : r a 6 = Rf.ptr 71 := (F.r (a := a) (k := 6) (by show cstC a 6 = true; unfold cstC; rw [p]; rfl)).trans (by show r0C a 6 = Rf.ptr 71; unfold r0C; rw [p]; rfl)
theorem rC_11_7 {sh : List Sh} {r : Nat → Nat → Rf} (F : FX ΦC sh r) {a : Nat} (p : sh0C[a]? = some (Sh.obj 11)) : r a 7 = Rf.ptr 72 := (F.r (a := a) (k := 7) (by show cstC a 7 = true; unfold cstC; rw [p]; rfl)).trans (by show r0C a 7 = Rf.ptr 72; unfold r0C; rw [p]; rfl)
theorem rC_11_8 {sh : List Sh} {r : Nat → Nat → Rf} (F : FX ΦC sh r) {a : Nat} (p : sh0C[a]? = some (Sh.obj 11)) : r a 8 = Rf.ptr 73 := (F.r (a := a) (k := 8) (by show cstC a 8 = true; unfold cstC; rw [p]; rfl)).trans (by show r0C a 8 = Rf.ptr 73; unfold r0C; rw [p]; rfl)
theorem rC_11_10 {sh : List Sh} {r : Nat → Nat → Rf} (F : FX ΦC sh r) {a : Nat} (p : sh0C[a]? = some (Sh.obj 11)) : r a 10 = Rf.ptr 74 := (F.r (a := a) (k := 10) (by show cstC a 10 = true; unfold cstC; rw [p]; rfl)).trans (by show r0C a 10 = Rf.ptr 74; unfold r0C; rw [p]; rfl)
theorem rC_12_0 {sh : List Sh} {r : Nat → Nat → Rf} (F : FX ΦC sh r) {a : Nat} (p : sh0C[a]? = some (Sh.obj 12)) : r a 0 = Rf.ptr 2 := (F.r (a := a) (k := 0) (by show cstC a 0 = true; unfold cstC; rw [p]; rfl)).trans (by show r0C a 0 = Rf.ptr 2; unfold r0C; rw [p]; rfl)
theorem rC_12_1 {sh : List Sh} {r : Nat → Nat → Rf} (F : FX ΦC sh r) {a : Nat} (p : sh0C[a]? = some (Sh.obj 12)) : r a 1 = Rf.ptr 10 := (F.r (a := a) (k := 1) (by show cstC a 1 = true; unfold cstC; rw [p]; rfl)).trans (by show r0C a 1 = Rf.ptr 10; unfold r0C; rw [p]; rfl)
theorem rC_12_2 {sh : List Sh} {r : Nat → Nat → Rf} (F : FX ΦC sh r) {a : Nat} (p : sh0C[a]? = some (Sh.obj 12)) : r a 2 = Rf.ptr 24 := (F.r (a := a) (k := 2) (by show cstC a 2 = true; unfold cstC; rw [p]; rfl)).trans (by show r0C a 2 = Rf.ptr 24; unfold r0C; rw [p]; rfl)
theorem rC_12_3 {sh : List Sh} {r : Nat → Nat → Rf} (F : FX ΦC sh r) {a : Nat} (p : sh0C[a]? = some (Sh.obj 12)) : r a 3 = Rf.ptr 28 := (F.r (a := a) (k := 3) (by show cstC a 3 = true; unfold cstC; rw [p]; rfl)).trans (by show r0C a 3 = Rf.ptr 28; unfold r0C; rw [p]; rfl)
theorem rC_12_4 {sh : List Sh} {r : Nat → Nat → Rf} (F : FX ΦC sh r) {a : Nat} (p : sh0C[a]? = some (Sh.obj 12)) : r a 4 = Rf.ptr 29 := (F.r (a := a) (k := 4) (by show cstC a 4 = true; unfold cstC; rw [p]; rfl)).trans (by show r0C a 4 = Rf.ptr 29; unfold r0C; rw [p]; rfl)
theorem rC_12_5 {sh : List Sh} {r : Nat → Nat → Rf} (F : FX ΦC sh r) {a : Nat} (p : sh0C[a]? = some (Sh.obj 12)) : r a 5 = Rf.ptr 30 := (F.r (a := a) (k := 5) (by show cstC a 5 = true; unfold cstC; rw [p]; rfl)).trans (by show r0C a 5 = Rf.ptr 30; unfold r0C; rw [p]; rfl)
theorem rC_12_6 {sh : List Sh} {r : Nat → Nat → Rf} (F : FX ΦC sh r) {a : Nat} (p : sh0C[a]? = some (Sh.obj 12)) : r a 6 = Rf.ptr 31 := (F.r (a := a) (k := 6) (by show cstC a 6 = true; unfold cstC; rw [p]; rfl)).trans (by show r0C a 6 = Rf.ptr 31; unfold r0C; rw [p]; rfl)
theorem rC_12_7 {sh : List Sh} {r : Nat → Nat → Rf} (F : FX ΦC sh r) {a : Nat} (p : sh0C[a]? = some (Sh.obj 12)) : r a 7 = Rf.ptr 32 := (F.r (a := a) (k := 7) (by show cstC a 7 = true; unfold cstC; rw [p]; rfl)).trans (by show r0C a 7 = Rf.ptr 32; unfold r0C; rw [p]; rfl)
theorem rC_12_8 {sh : List Sh} {r : Nat → Nat → Rf} (F : FX ΦC sh r) {a : Nat} (p : sh0C[a]? = some (Sh.obj 12)) : r a 8 = Rf.ptr 33 := (F.r (a := a) (k := 8) (by show cstC a 8 = true; unfold cstC; rw [p]; rfl)).trans (by show r0C a 8 = Rf.ptr 33; unfold r0C; rw [p]; rfl)
theorem rC_12_9 {sh : List Sh} {r : Nat → Nat → Rf} (F : FX ΦC sh r) {a : Nat} (p : sh0C[a]? = some (Sh.obj 12)) : r a 9 = Rf.ptr 34 := (F.r (a := a) (k := 9) (by show cstC a 9 = true; unfold cstC; rw [p]; rfl)).trans (by show r0C a 9 = Rf.ptr 34; unfold r0C; rw [p]; rfl)
theorem rC_12_10 {sh : List Sh} {r : Nat → Nat → Rf} (F : FX ΦC sh r) {a : Nat} (p : sh0C[a]? = some (Sh.obj 12)) : r a 10 = Rf.ptr 35 := (F.r (a := a) (k := 10) (by show cstC a 10 = true; unfold cstC; rw [p]; rfl)).trans (by show r0C a 10 = Rf.ptr 35; unfold r0C; rw [p]; rfl)
theorem rC_12_11 {sh : List Sh} {r : Nat → Nat → Rf} (F : FX ΦC sh r) {a : Nat} (p : sh0C[a]? = some (Sh.obj 12)) : r a 11 = Rf.ptr 36 := (F.r (a := a) (k := 11) (by show cstC a 11 = true; unfold cstC; rw [p]; rfl)).trans (by show r0C a 11 = Rf.ptr 36; unfold r0C; rw [p]; rfl)
theorem rC_12_12 {sh : List Sh} {r : Nat → Nat → Rf} (F : FX ΦC sh r) {a : Nat} (p : sh0C[a]? = some (Sh.obj 12)) : r a 12 = Rf.ptr 37 := (F.r (a := a) (k := 12) (by show cstC a 12 = true; unfold cstC; rw [p]; rfl)).trans (by show r0C a 12 = Rf.ptr 37; unfold r0C; rw [p]; rfl)
theorem rC_12_13 {sh : List Sh} {r : Nat → Nat → Rf} (F : FX ΦC sh r) {a : Nat} (p : sh0C[a]? = some (Sh.obj 12)) : r a 13 = Rf.ptr 38 := (F.r (a := a) (k := 13) (by show cstC a 13 = true; unfold cstC; rw [p]; rfl)).trans (by show r0C a 13 = Rf.ptr 38; unfold r0C; rw [p]; rfl)
theorem rC_12_17 {sh : List Sh} {r : Nat → Nat → Rf} (F : FX ΦC sh r) {a : Nat} (p : sh0C[a]? = some (Sh.obj 12)) : r a 17 = Rf.ptr 39 := (F.r (a := a) (k := 17) (by show cstC a 17 = true; unfold cstC; rw [p]; rfl)).trans (by show r0C a 17 = Rf.ptr 39; unfold r0C; rw [p]; rfl)
theorem rC_13_0 {sh : List Sh} {r : Nat → Nat → Rf} (F : FX ΦC sh r) {a : Nat} (p : sh0C[a]? = some (Sh.obj 13)) : r a 0 = Rf.ptr 1 := (F.r (a := a) (k := 0) (by show cstC a 0 = true; unfold cstC; rw [p]; rfl)).trans (by show r0C a 0 = Rf.ptr 1; unfold r0C; rw [p]; rfl)
theorem rC_13_1 {sh : List Sh} {r : Nat → Nat → Rf} (F : FX ΦC sh r) {a : Nat} (p : sh0C[a]? = some (Sh.obj 13)) : r a 1 = Rf.ptr 40 := (F.r (a := a) (k := 1) (by show cstC a 1 = true; unfold cstC; rw [p]; rfl)).trans (by show r0C a 1 = Rf.ptr 40; unfold r0C; rw [p]; rfl)
theorem rC_13_2 {sh : List Sh} {r : Nat → Nat → Rf} (F : FX ΦC sh r) {a : Nat} (p : sh0C[a]? = some (Sh.obj 13)) : r a 2 = Rf.ptr 46 := (F.r (a := a) (k := 2) (by show cstC a 2 = true; unfold cstC; rw [p]; rfl)).trans (by show r0C a 2 = Rf.ptr 46; unfold r0C; rw [p]; rfl)
theorem rC_13_3 {sh : List Sh} {r : Nat → Nat → Rf} (F : FX ΦC sh r) {a : Nat} (p : sh0C[a]? = some (Sh.obj 13)) : r a 3 = Rf.ptr 56 := (F.r (a := a) (k := 3) (by show cstC a 3 = true; unfold cstC; rw [p]; rfl)).trans (by show r0C a 3 = Rf.ptr 56; unfold r0C; rw [p]; rfl)
theorem rC_13_4 {sh : List Sh} {r : Nat → Nat → Rf} (F : FX ΦC sh r) {a : Nat} (p : sh0C[a]? = some (Sh.obj 13)) : r a 4 = Rf.ptr 67 := (F.r (a := a) (k := 4) (by show cstC a 4 = true; unfold cstC; rw [p]; rfl)).trans (by show r0C a 4 = Rf.ptr 67; unfold r0C; rw [p]; rfl)
theorem rC_13_5 {sh : List Sh} {r : Nat → Nat → Rf} (F : FX ΦC sh r) {a : Nat} (p : sh0C[a]? = some (Sh.obj 13)) : r a 5 = Rf.ptr 83 := (F.r (a := a) (k := 5) (by show cstC a 5 = true; unfold cstC; rw [p]; rfl)).trans (by show r0C a 5 = Rf.ptr 83; unfold r0C; rw [p]; rfl)
theorem rC_13_6 {sh : List Sh} {r : Nat → Nat → Rf} (F : FX ΦC sh r) {a : Nat} (p : sh0C[a]? = some (Sh.obj 13)) : r a 6 = Rf.ptr 98 := (F.r (a := a) (k := 6) (by show cstC a 6 = true; unfold cstC; rw [p]; rfl)).trans (by show r0C a 6 = Rf.ptr 98; unfold r0C; rw [p]; rfl)
theorem rC_13_7 {sh : List Sh} {r : Nat → Nat → Rf} (F : FX ΦC sh r) {a : Nat} (p : sh0C[a]? = some (Sh.obj 13)) : r a 7 = Rf.ptr 99 := (F.r (a := a) (k := 7) (by show cstC a 7 = true; unfold cstC; rw [p]; rfl)).trans (by show r0C a 7 = Rf.ptr 99; unfold r0C; rw [p]; rfl)
theorem rC_10_0 {sh : List Sh} {r : Nat → Nat → Rf} (F : FX ΦC sh r) {a : Nat} (p : sh0C[a]? = some (Sh.obj 10)) : r a 0 = Rf.ptr 1 := (F.r (a := a) (k := 0) (by show cstC a 0 = true; unfold cstC; rw [p]; rfl)).trans (by show r0C a 0 = Rf.ptr 1; unfold r0C; rw [p]; rfl)
theorem rC_10_1 {sh : List Sh} {r : Nat → Nat → Rf} (F : FX ΦC sh r) {a : Nat} (p : sh0C[a]? = some (Sh.obj 10)) : r a 1 = Rf.ptr (a + 1) := (F.r (a := a) (k := 1) (by show cstC a 1 = true; unfold cstC; rw [p]; rfl)).trans (by show r0C a 1 = Rf.ptr (a + 1); unfold r0C; rw [p]; rfl)
theorem rC_10_2 {sh : List Sh} {r : Nat → Nat → Rf} (F : FX ΦC sh r) {a : Nat} (p : sh0C[a]? = some (Sh.obj 10)) : r a 2 = Rf.ptr (a + 2) := (F.r (a := a) (k := 2) (by show cstC a 2 = true; unfold cstC; rw [p]; rfl)).trans (by show r0C a 2 = Rf.ptr (a + 2); unfold r0C; rw [p]; rfl)
theorem rC_10_4 {sh : List Sh} {r : Nat → Nat → Rf} (F : FX ΦC sh r) {a : Nat} (p : sh0C[a]? = some (Sh.obj 10)) : r a 4 = Rf.ptr (a + 3) := (F.r (a := a) (k := 4) (by show cstC a 4 = true; unfold cstC; rw [p]; rfl)).trans (by show r0C a 4 = Rf.ptr (a + 3); unfold r0C; rw [p]; rfl)
theorem rC_10_5 {sh : List Sh} {r : Nat → Nat → Rf} (F : FX ΦC sh r) {a : Nat} (p : sh0C[a]? = some (Sh.obj 10)) : r a 5 = Rf.ptr (a + 4) := (F.r (a := a) (k := 5) (by show cstC a 5 = true; unfold cstC; rw [p]; rfl)).trans (by show r0C a 5 = Rf.ptr (a + 4); unfold r0C; rw [p]; rfl)
theorem rC_10_6 {sh : List Sh} {r : Nat → Nat → Rf} (F : FX ΦC sh r) {a : Nat} (p : sh0C[a]? = some (Sh.obj 10)) : r a 6 = Rf.ptr (a + 5) := (F.r (a := a) (k := 6) (by show cstC a 6 = true; unfold cstC; rw [p]; rfl)).trans (by show r0C a 6 = Rf.ptr (a + 5); unfold r0C; rw [p]; rfl)
theorem rC_10_8 {sh : List Sh} {r : Nat → Nat → Rf} (F : FX ΦC sh r) {a : Nat} (p : sh0C[a]? = some (Sh.obj 10)) : r a 8 = Rf.ptr (a + 6) := (F.r (a := a) (k := 8) (by show cstC a 8 = true; unfold cstC; rw [p]; rfl)).trans (by show r0C a 8 = Rf.ptr (a + 6); unfold r0C; rw [p]; rfl)
theorem rC_10_9 {sh : List Sh} {r : Nat → Nat → Rf} (F : FX ΦC sh r) {a : Nat} (p : sh0C[a]? = some (Sh.obj 10)) : r a 9 = Rf.ptr (a + 7) := (F.r (a := a) (k := 9) (by show cstC a 9 = true; unfold cstC; rw [p]; rfl)).trans (by show r0C a 9 = Rf.ptr (a + 7); unfold r0C; rw [p]; rfl)
theorem dC_13_8 {a : Nat} (p : sh0C[a]? = some (Sh.obj 13)) : ΦC.cst a 8 = false := by show cstC a 8 = false; unfold cstC; rw [p]; rfl
theorem dC_2_0 {a : Nat} (p : sh0C[a]? = some (Sh.obj 2)) : ΦC.cst a 0 = false := by show cstC a 0 = false; unfold cstC; rw [p]; rfl
theorem dC_2_1 {a : Nat} (p : sh0C[a]? = some (Sh.obj 2)) : ΦC.cst a 1 = false := by show cstC a 1 = false; unfold cstC; rw [p]; rfl
theorem dC_2_2 {a : Nat} (p : sh0C[a]? = some (Sh.obj 2)) : ΦC.cst a 2 = false := by show cstC a 2 = false; unfold cstC; rw [p]; rfl
theorem dC_9_0 {a : Nat} (p : sh0C[a]? = some (Sh.obj 9)) : ΦC.cst a 0 = false := by show cstC a 0 = false; unfold cstC; rw [p]; rfl
theorem dC_9_1 {a : Nat} (p : sh0C[a]? = some (Sh.obj 9)) : ΦC.cst a 1 = false := by show cstC a 1 = false; unfold cstC; rw [p]; rfl
theorem dC_9_2 {a : Nat} (p : sh0C[a]? = some (Sh.obj 9)) : ΦC.cst a 2 = false := by show cstC a 2 = false; unfold cstC; rw [p]; rfl
theorem dC_9_3 {a : Nat} (p : sh0C[a]? = some (Sh.obj 9)) : ΦC.cst a 3 = false := by show cstC a 3 = false; unfold cstC; rw [p]; rfl
theorem dC_4_8 {a : Nat} (p : sh0C[a]? = some (Sh.obj 4)) : ΦC.cst a 8 = false := by show cstC a 8 = false; unfold cstC; rw [p]; rfl
theorem dC_4_9 {a : Nat} (p : sh0C[a]? = some (Sh.obj 4)) : ΦC.cst a 9 = false := by show cstC a 9 = false; unfold cstC; rw [p]; rfl
theorem dC_4_10 {a : Nat} (p : sh0C[a]? = some (Sh.obj 4)) : ΦC.cst a 10 = false := by show cstC a 10 = false; unfold cstC; rw [p]; rfl
theorem dC_7_3 {a : Nat} (p : sh0C[a]? = some (Sh.obj 7)) : ΦC.cst a 3 = false := by show cstC a 3 = false; unfold cstC; rw [p]; rfl
theorem sp_at {a : Nat} (p : sh0C[a]? = some (Sh.obj 10)) : a = 48 ∨ a = 75 := by
  have h : a < 102 := (List.getElem?_eq_some_iff.mp p).1
  have q : ∀ b : Fin 102, sh0C[b.val]? = some (Sh.obj 10) → b.val = 48 ∨ b.val = 75 := by decide +kernel
  exact q ⟨a, h⟩ p
theorem kC_10_1 {a : Nat} (p : sh0C[a]? = some (Sh.obj 10)) : sh0C[a + 1]? = some (Sh.arr 0 18) := by
  rcases sp_at p with rfl | rfl <;> rfl
theorem kC_10_2 {a : Nat} (p : sh0C[a]? = some (Sh.obj 10)) : sh0C[a + 2]? = some (Sh.arr 3 18) := by
  rcases sp_at p with rfl | rfl <;> rfl
theorem kC_10_3 {a : Nat} (p : sh0C[a]? = some (Sh.obj 10)) : sh0C[a + 3]? = some (Sh.arr 0 36) := by
  rcases sp_at p with rfl | rfl <;> rfl
theorem kC_10_4 {a : Nat} (p : sh0C[a]? = some (Sh.obj 10)) : sh0C[a + 4]? = some (Sh.arr 0 36) := by
  rcases sp_at p with rfl | rfl <;> rfl
theorem kC_10_5 {a : Nat} (p : sh0C[a]? = some (Sh.obj 10)) : sh0C[a + 5]? = some (Sh.arr 1 36) := by
  rcases sp_at p with rfl | rfl <;> rfl
theorem kC_10_6 {a : Nat} (p : sh0C[a]? = some (Sh.obj 10)) : sh0C[a + 6]? = some (Sh.arr 0 37) := by
  rcases sp_at p with rfl | rfl <;> rfl
theorem kC_10_7 {a : Nat} (p : sh0C[a]? = some (Sh.obj 10)) : sh0C[a + 7]? = some (Sh.arr 1 592) := by
  rcases sp_at p with rfl | rfl <;> rfl
theorem hΦC : ∀ a k, ΦC.cst a k = true → a < ΦC.sh0.length := by
  intro a k h
  have h : cstC a k = true := h
  unfold cstC at h
  by_cases g : a < sh0C.length
  · exact g
  · rw [List.getElem?_eq_none (Nat.not_lt.mp g)] at h
    cases h
