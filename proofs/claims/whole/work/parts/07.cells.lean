def jm_LC : List jm_S := [.inr (.inr (.inr (11, [some 1, some 6, some 29, some 35, some 37, some 38, some 41, some 46, some 49, some 56, some 63, some 64, some 87, none, some 93, none, none]))), .inr (.inr (.inr (7, [some 2, none, none, none, some 3, some 4, some 5, none, none]))), .inl 400, .inl 401, .inl 401, .inl 401, .inr (.inr (.inr (8, [none, some 7, some 8, some 9, some 10, none, none, none, none, some 11, some 12, some 15, some 22]))), .inl 8, .inl 8, .inl 8, .inl 48, .inl 12, .inr (.inr (.inr (5, [none, some 13, some 14]))), .inl 24, .inl 168, .inr (.inr (.inr (3, [none, none, some 16, some 17, some 18, some 19, some 20, some 21]))), .inl 400, .inl 16, .inl 16, .inl 16, .inl 16, .inl 64, .inr (.inr (.inr (6, [none, some 23, some 24, some 25, some 26, some 27, some 28, none]))), .inl 60, .inl 60, .inl 60, .inl 60, .inl 4, .inl 4, .inr (.inr (.inr (1, [none, none, some 30, some 31, none, some 32, none, some 33, none, some 34]))), .inl 8, .inl 8, .inl 140, .inl 200, .inl 600, .inr (.inr (.inr (0, [some 6, some 29, some 36]))), .inl 11, .inr (.inr (.inr (2, [some 35, some 6, some 29]))), .inr (.inr (.inr (10, [some 35, some 6, some 29, some 39, some 40]))), .inl 10, .inr (.inl 61), .inr (.inr (.inr (9, [some 35, some 6, some 29, some 42, some 43, some 44, some 45]))), .inl 4, .inl 8, .inl 24, .inl 24, .inr (.inr (.inr (5, [none, some 47, some 48]))), .inl 24, .inl 168, .inr (.inr (.inr (3, [none, none, some 50, some 51, some 52, some 53, some 54, some 55]))), .inl 400, .inl 16, .inl 16, .inl 16, .inl 16, .inl 64, .inr (.inr (.inr (6, [none, some 57, some 58, some 59, some 60, some 61, some 62, none]))), .inl 60, .inl 60, .inl 60, .inl 60, .inl 4, .inl 4, .inr (.inr (.inr (4, [some 1, some 49]))), .inr (.inr (.inr (8, [none, some 65, some 66, some 67, some 68, none, none, none, none, some 69, some 70, some 73, some 80]))), .inl 8, .inl 8, .inl 8, .inl 48, .inl 12, .inr (.inr (.inr (5, [none, some 71, some 72]))), .inl 24, .inl 168, .inr (.inr (.inr (3, [none, none, some 74, some 75, some 76, some 77, some 78, some 79]))), .inl 400, .inl 16, .inl 16, .inl 16, .inl 16, .inl 64, .inr (.inr (.inr (6, [none, some 81, some 82, some 83, some 84, some 85, some 86, none]))), .inl 60, .inl 60, .inl 60, .inl 60, .inl 4, .inl 4, .inr (.inr (.inr (1, [none, none, some 88, some 89, none, some 90, none, some 91, none, some 92]))), .inl 8, .inl 8, .inl 140, .inl 200, .inl 600, .inr (.inr (.inl [94, 100, 106, 112, 118, 124])), .inr (.inr (.inr (1, [none, none, some 95, some 96, none, some 97, none, some 98, none, some 99]))), .inl 8, .inl 8, .inl 140, .inl 200, .inl 600, .inr (.inr (.inr (1, [none, none, some 101, some 102, none, some 103, none, some 104, none, some 105]))), .inl 8, .inl 8, .inl 140, .inl 200, .inl 600, .inr (.inr (.inr (1, [none, none, some 107, some 108, none, some 109, none, some 110, none, some 111]))), .inl 8, .inl 8, .inl 140, .inl 200, .inl 600, .inr (.inr (.inr (1, [none, none, some 113, some 114, none, some 115, none, some 116, none, some 117]))), .inl 8, .inl 8, .inl 140, .inl 200, .inl 600, .inr (.inr (.inr (1, [none, none, some 119, some 120, none, some 121, none, some 122, none, some 123]))), .inl 8, .inl 8, .inl 140, .inl 200, .inl 600, .inr (.inr (.inr (1, [none, none, some 125, some 126, none, some 127, none, some 128, none, some 129]))), .inl 8, .inl 8, .inl 140, .inl 200, .inl 600]
def jm_LR : List jm_S := [.inr (.inr (.inr (12, [none, some 1, some 2, none, none, some 3, some 4, some 5, some 6, none, none, none, some 7, none, none, none, none, none, some 8, some 9, some 10, some 11, some 12, some 13, some 14, some 15, none, none, none, some 16, none, none, none, none, none, none, some 17, some 18, none, none, some 19, some 20, some 21, some 22, some 23, some 24, some 25, some 26, none, none, none, some 27, none, some 28, some 29, none, none, none, some 30]))), .inl 22, .inl 132, .inl 8, .inl 8, .inl 8, .inl 48, .inl 400, .inl 143, .inl 2, .inl 48, .inl 48, .inl 48, .inl 48, .inl 1200, .inl 1200, .inl 40, .inl 384, .inl 800, .inl 480, .inl 4, .inl 4, .inl 11, .inl 420, .inl 120, .inl 200, .inl 600, .inl 10, .inl 12, .inl 24, .inl 2700]
def jm_NW : List Cond := [.methodLinkNest RX7 51 yX11_isWithin "SungEvidence", .methodLinkNest RX4 32 yX11_isWithin "SungEvidence", .methodLinkNest RX6 94 yX11_isWithin "SungEvidence", .methodLinkNest RX8 84 yX11_isFact "SungEvidence", .methodLinkNest RX5 30 yX11_isWithin "SungEvidence", .methodLinkNest RX0 62 yX11_isWithin "SungEvidence", .methodLinkNest RX0 80 yX11_held "SungEvidence", .methodLinkNest RX1 59 yX11_isWithin "SungEvidence"]
def jm_SW : List (Nat × String) := [(55, "motive up down same "), (57, "slip shake weight when or and not nerve hoarse breath bar note room fact value day sung slips "), (59, "call on in cross rest again ")]
/-- the class's world: its cells, the links of nest mates, the string constants -/
def jm_HC (g : jm_G) : Prop := g.1 = jm_LC ∧ (∀ w ∈ jm_NW, ∀ s : State, g.2.2.2.2 s → va_Nw w s) ∧ (∀ (k : Nat) (q : Nat × String), jm_SW[k]? = some q → ∀ s : State, g.2.2.2.2 s → vk_R RX7 q.1 q.2 (g.2.2.1 (1000 + k)) s) ∧ ∀ k, k < 3 → ∀ (s : State) (H : Heap) (locs : List Loc), g.2.2.2.2 s → va_S (jm_A g) s.heap H locs → ∃ cell : Cell, H[g.2.2.1 (1000 + k)]? = some cell ∧ cell.vm.isStatics = false ∧ s.vm.findClass "java/lang/String" = some cell.cls
def jm_HR (g : jm_G) : Prop := g.1 = jm_LR
theorem cC0 {g : jm_G} (hg : jm_HC g) : g.1[0]? = some (.inr (.inr (.inr (11, [some 1, some 6, some 29, some 35, some 37, some 38, some 41, some 46, some 49, some 56, some 63, some 64, some 87, none, some 93, none, none])))) := by rw [hg.1]; rfl
theorem cC1 {g : jm_G} (hg : jm_HC g) : g.1[1]? = some (.inr (.inr (.inr (7, [some 2, none, none, none, some 3, some 4, some 5, none, none])))) := by rw [hg.1]; rfl
theorem cC2 {g : jm_G} (hg : jm_HC g) : g.1[2]? = some (.inl 400) := by rw [hg.1]; rfl
theorem cC3 {g : jm_G} (hg : jm_HC g) : g.1[3]? = some (.inl 401) := by rw [hg.1]; rfl
theorem cC4 {g : jm_G} (hg : jm_HC g) : g.1[4]? = some (.inl 401) := by rw [hg.1]; rfl
theorem cC5 {g : jm_G} (hg : jm_HC g) : g.1[5]? = some (.inl 401) := by rw [hg.1]; rfl
theorem cC6 {g : jm_G} (hg : jm_HC g) : g.1[6]? = some (.inr (.inr (.inr (8, [none, some 7, some 8, some 9, some 10, none, none, none, none, some 11, some 12, some 15, some 22])))) := by rw [hg.1]; rfl
theorem cC7 {g : jm_G} (hg : jm_HC g) : g.1[7]? = some (.inl 8) := by rw [hg.1]; rfl
theorem cC8 {g : jm_G} (hg : jm_HC g) : g.1[8]? = some (.inl 8) := by rw [hg.1]; rfl
theorem cC9 {g : jm_G} (hg : jm_HC g) : g.1[9]? = some (.inl 8) := by rw [hg.1]; rfl
theorem cC10 {g : jm_G} (hg : jm_HC g) : g.1[10]? = some (.inl 48) := by rw [hg.1]; rfl
theorem cC11 {g : jm_G} (hg : jm_HC g) : g.1[11]? = some (.inl 12) := by rw [hg.1]; rfl
theorem cC12 {g : jm_G} (hg : jm_HC g) : g.1[12]? = some (.inr (.inr (.inr (5, [none, some 13, some 14])))) := by rw [hg.1]; rfl
theorem cC13 {g : jm_G} (hg : jm_HC g) : g.1[13]? = some (.inl 24) := by rw [hg.1]; rfl
theorem cC14 {g : jm_G} (hg : jm_HC g) : g.1[14]? = some (.inl 168) := by rw [hg.1]; rfl
theorem cC15 {g : jm_G} (hg : jm_HC g) : g.1[15]? = some (.inr (.inr (.inr (3, [none, none, some 16, some 17, some 18, some 19, some 20, some 21])))) := by rw [hg.1]; rfl
theorem cC16 {g : jm_G} (hg : jm_HC g) : g.1[16]? = some (.inl 400) := by rw [hg.1]; rfl
theorem cC17 {g : jm_G} (hg : jm_HC g) : g.1[17]? = some (.inl 16) := by rw [hg.1]; rfl
theorem cC18 {g : jm_G} (hg : jm_HC g) : g.1[18]? = some (.inl 16) := by rw [hg.1]; rfl
theorem cC19 {g : jm_G} (hg : jm_HC g) : g.1[19]? = some (.inl 16) := by rw [hg.1]; rfl
theorem cC20 {g : jm_G} (hg : jm_HC g) : g.1[20]? = some (.inl 16) := by rw [hg.1]; rfl
theorem cC21 {g : jm_G} (hg : jm_HC g) : g.1[21]? = some (.inl 64) := by rw [hg.1]; rfl
theorem cC22 {g : jm_G} (hg : jm_HC g) : g.1[22]? = some (.inr (.inr (.inr (6, [none, some 23, some 24, some 25, some 26, some 27, some 28, none])))) := by rw [hg.1]; rfl
theorem cC23 {g : jm_G} (hg : jm_HC g) : g.1[23]? = some (.inl 60) := by rw [hg.1]; rfl
theorem cC24 {g : jm_G} (hg : jm_HC g) : g.1[24]? = some (.inl 60) := by rw [hg.1]; rfl
theorem cC25 {g : jm_G} (hg : jm_HC g) : g.1[25]? = some (.inl 60) := by rw [hg.1]; rfl
theorem cC26 {g : jm_G} (hg : jm_HC g) : g.1[26]? = some (.inl 60) := by rw [hg.1]; rfl
theorem cC27 {g : jm_G} (hg : jm_HC g) : g.1[27]? = some (.inl 4) := by rw [hg.1]; rfl
theorem cC28 {g : jm_G} (hg : jm_HC g) : g.1[28]? = some (.inl 4) := by rw [hg.1]; rfl
theorem cC29 {g : jm_G} (hg : jm_HC g) : g.1[29]? = some (.inr (.inr (.inr (1, [none, none, some 30, some 31, none, some 32, none, some 33, none, some 34])))) := by rw [hg.1]; rfl
theorem cC30 {g : jm_G} (hg : jm_HC g) : g.1[30]? = some (.inl 8) := by rw [hg.1]; rfl
theorem cC31 {g : jm_G} (hg : jm_HC g) : g.1[31]? = some (.inl 8) := by rw [hg.1]; rfl
theorem cC32 {g : jm_G} (hg : jm_HC g) : g.1[32]? = some (.inl 140) := by rw [hg.1]; rfl
theorem cC33 {g : jm_G} (hg : jm_HC g) : g.1[33]? = some (.inl 200) := by rw [hg.1]; rfl
theorem cC34 {g : jm_G} (hg : jm_HC g) : g.1[34]? = some (.inl 600) := by rw [hg.1]; rfl
theorem cC35 {g : jm_G} (hg : jm_HC g) : g.1[35]? = some (.inr (.inr (.inr (0, [some 6, some 29, some 36])))) := by rw [hg.1]; rfl
theorem cC36 {g : jm_G} (hg : jm_HC g) : g.1[36]? = some (.inl 11) := by rw [hg.1]; rfl
theorem cC37 {g : jm_G} (hg : jm_HC g) : g.1[37]? = some (.inr (.inr (.inr (2, [some 35, some 6, some 29])))) := by rw [hg.1]; rfl
theorem cC38 {g : jm_G} (hg : jm_HC g) : g.1[38]? = some (.inr (.inr (.inr (10, [some 35, some 6, some 29, some 39, some 40])))) := by rw [hg.1]; rfl
theorem cC39 {g : jm_G} (hg : jm_HC g) : g.1[39]? = some (.inl 10) := by rw [hg.1]; rfl
theorem cC40 {g : jm_G} (hg : jm_HC g) : g.1[40]? = some (.inr (.inl 61)) := by rw [hg.1]; rfl
theorem cC41 {g : jm_G} (hg : jm_HC g) : g.1[41]? = some (.inr (.inr (.inr (9, [some 35, some 6, some 29, some 42, some 43, some 44, some 45])))) := by rw [hg.1]; rfl
theorem cC42 {g : jm_G} (hg : jm_HC g) : g.1[42]? = some (.inl 4) := by rw [hg.1]; rfl
theorem cC43 {g : jm_G} (hg : jm_HC g) : g.1[43]? = some (.inl 8) := by rw [hg.1]; rfl
theorem cC44 {g : jm_G} (hg : jm_HC g) : g.1[44]? = some (.inl 24) := by rw [hg.1]; rfl
theorem cC45 {g : jm_G} (hg : jm_HC g) : g.1[45]? = some (.inl 24) := by rw [hg.1]; rfl
theorem cC46 {g : jm_G} (hg : jm_HC g) : g.1[46]? = some (.inr (.inr (.inr (5, [none, some 47, some 48])))) := by rw [hg.1]; rfl
theorem cC47 {g : jm_G} (hg : jm_HC g) : g.1[47]? = some (.inl 24) := by rw [hg.1]; rfl
theorem cC48 {g : jm_G} (hg : jm_HC g) : g.1[48]? = some (.inl 168) := by rw [hg.1]; rfl
theorem cC49 {g : jm_G} (hg : jm_HC g) : g.1[49]? = some (.inr (.inr (.inr (3, [none, none, some 50, some 51, some 52, some 53, some 54, some 55])))) := by rw [hg.1]; rfl
theorem cC50 {g : jm_G} (hg : jm_HC g) : g.1[50]? = some (.inl 400) := by rw [hg.1]; rfl
theorem cC51 {g : jm_G} (hg : jm_HC g) : g.1[51]? = some (.inl 16) := by rw [hg.1]; rfl
theorem cC52 {g : jm_G} (hg : jm_HC g) : g.1[52]? = some (.inl 16) := by rw [hg.1]; rfl
theorem cC53 {g : jm_G} (hg : jm_HC g) : g.1[53]? = some (.inl 16) := by rw [hg.1]; rfl
theorem cC54 {g : jm_G} (hg : jm_HC g) : g.1[54]? = some (.inl 16) := by rw [hg.1]; rfl
theorem cC55 {g : jm_G} (hg : jm_HC g) : g.1[55]? = some (.inl 64) := by rw [hg.1]; rfl
theorem cC56 {g : jm_G} (hg : jm_HC g) : g.1[56]? = some (.inr (.inr (.inr (6, [none, some 57, some 58, some 59, some 60, some 61, some 62, none])))) := by rw [hg.1]; rfl
theorem cC57 {g : jm_G} (hg : jm_HC g) : g.1[57]? = some (.inl 60) := by rw [hg.1]; rfl
theorem cC58 {g : jm_G} (hg : jm_HC g) : g.1[58]? = some (.inl 60) := by rw [hg.1]; rfl
theorem cC59 {g : jm_G} (hg : jm_HC g) : g.1[59]? = some (.inl 60) := by rw [hg.1]; rfl
theorem cC60 {g : jm_G} (hg : jm_HC g) : g.1[60]? = some (.inl 60) := by rw [hg.1]; rfl
theorem cC61 {g : jm_G} (hg : jm_HC g) : g.1[61]? = some (.inl 4) := by rw [hg.1]; rfl
theorem cC62 {g : jm_G} (hg : jm_HC g) : g.1[62]? = some (.inl 4) := by rw [hg.1]; rfl
theorem cC63 {g : jm_G} (hg : jm_HC g) : g.1[63]? = some (.inr (.inr (.inr (4, [some 1, some 49])))) := by rw [hg.1]; rfl
theorem cC64 {g : jm_G} (hg : jm_HC g) : g.1[64]? = some (.inr (.inr (.inr (8, [none, some 65, some 66, some 67, some 68, none, none, none, none, some 69, some 70, some 73, some 80])))) := by rw [hg.1]; rfl
theorem cC65 {g : jm_G} (hg : jm_HC g) : g.1[65]? = some (.inl 8) := by rw [hg.1]; rfl
theorem cC66 {g : jm_G} (hg : jm_HC g) : g.1[66]? = some (.inl 8) := by rw [hg.1]; rfl
theorem cC67 {g : jm_G} (hg : jm_HC g) : g.1[67]? = some (.inl 8) := by rw [hg.1]; rfl
theorem cC68 {g : jm_G} (hg : jm_HC g) : g.1[68]? = some (.inl 48) := by rw [hg.1]; rfl
theorem cC69 {g : jm_G} (hg : jm_HC g) : g.1[69]? = some (.inl 12) := by rw [hg.1]; rfl
theorem cC70 {g : jm_G} (hg : jm_HC g) : g.1[70]? = some (.inr (.inr (.inr (5, [none, some 71, some 72])))) := by rw [hg.1]; rfl
theorem cC71 {g : jm_G} (hg : jm_HC g) : g.1[71]? = some (.inl 24) := by rw [hg.1]; rfl
theorem cC72 {g : jm_G} (hg : jm_HC g) : g.1[72]? = some (.inl 168) := by rw [hg.1]; rfl
theorem cC73 {g : jm_G} (hg : jm_HC g) : g.1[73]? = some (.inr (.inr (.inr (3, [none, none, some 74, some 75, some 76, some 77, some 78, some 79])))) := by rw [hg.1]; rfl
theorem cC74 {g : jm_G} (hg : jm_HC g) : g.1[74]? = some (.inl 400) := by rw [hg.1]; rfl
theorem cC75 {g : jm_G} (hg : jm_HC g) : g.1[75]? = some (.inl 16) := by rw [hg.1]; rfl
theorem cC76 {g : jm_G} (hg : jm_HC g) : g.1[76]? = some (.inl 16) := by rw [hg.1]; rfl
theorem cC77 {g : jm_G} (hg : jm_HC g) : g.1[77]? = some (.inl 16) := by rw [hg.1]; rfl
theorem cC78 {g : jm_G} (hg : jm_HC g) : g.1[78]? = some (.inl 16) := by rw [hg.1]; rfl
theorem cC79 {g : jm_G} (hg : jm_HC g) : g.1[79]? = some (.inl 64) := by rw [hg.1]; rfl
theorem cC80 {g : jm_G} (hg : jm_HC g) : g.1[80]? = some (.inr (.inr (.inr (6, [none, some 81, some 82, some 83, some 84, some 85, some 86, none])))) := by rw [hg.1]; rfl
theorem cC81 {g : jm_G} (hg : jm_HC g) : g.1[81]? = some (.inl 60) := by rw [hg.1]; rfl
theorem cC82 {g : jm_G} (hg : jm_HC g) : g.1[82]? = some (.inl 60) := by rw [hg.1]; rfl
theorem cC83 {g : jm_G} (hg : jm_HC g) : g.1[83]? = some (.inl 60) := by rw [hg.1]; rfl
theorem cC84 {g : jm_G} (hg : jm_HC g) : g.1[84]? = some (.inl 60) := by rw [hg.1]; rfl
theorem cC85 {g : jm_G} (hg : jm_HC g) : g.1[85]? = some (.inl 4) := by rw [hg.1]; rfl
theorem cC86 {g : jm_G} (hg : jm_HC g) : g.1[86]? = some (.inl 4) := by rw [hg.1]; rfl
theorem cC87 {g : jm_G} (hg : jm_HC g) : g.1[87]? = some (.inr (.inr (.inr (1, [none, none, some 88, some 89, none, some 90, none, some 91, none, some 92])))) := by rw [hg.1]; rfl
theorem cC88 {g : jm_G} (hg : jm_HC g) : g.1[88]? = some (.inl 8) := by rw [hg.1]; rfl
theorem cC89 {g : jm_G} (hg : jm_HC g) : g.1[89]? = some (.inl 8) := by rw [hg.1]; rfl
theorem cC90 {g : jm_G} (hg : jm_HC g) : g.1[90]? = some (.inl 140) := by rw [hg.1]; rfl
theorem cC91 {g : jm_G} (hg : jm_HC g) : g.1[91]? = some (.inl 200) := by rw [hg.1]; rfl
theorem cC92 {g : jm_G} (hg : jm_HC g) : g.1[92]? = some (.inl 600) := by rw [hg.1]; rfl
theorem cC93 {g : jm_G} (hg : jm_HC g) : g.1[93]? = some (.inr (.inr (.inl [94, 100, 106, 112, 118, 124]))) := by rw [hg.1]; rfl
theorem cC94 {g : jm_G} (hg : jm_HC g) : g.1[94]? = some (.inr (.inr (.inr (1, [none, none, some 95, some 96, none, some 97, none, some 98, none, some 99])))) := by rw [hg.1]; rfl
theorem cC95 {g : jm_G} (hg : jm_HC g) : g.1[95]? = some (.inl 8) := by rw [hg.1]; rfl
theorem cC96 {g : jm_G} (hg : jm_HC g) : g.1[96]? = some (.inl 8) := by rw [hg.1]; rfl
theorem cC97 {g : jm_G} (hg : jm_HC g) : g.1[97]? = some (.inl 140) := by rw [hg.1]; rfl
theorem cC98 {g : jm_G} (hg : jm_HC g) : g.1[98]? = some (.inl 200) := by rw [hg.1]; rfl
theorem cC99 {g : jm_G} (hg : jm_HC g) : g.1[99]? = some (.inl 600) := by rw [hg.1]; rfl
theorem cC100 {g : jm_G} (hg : jm_HC g) : g.1[100]? = some (.inr (.inr (.inr (1, [none, none, some 101, some 102, none, some 103, none, some 104, none, some 105])))) := by rw [hg.1]; rfl
theorem cC101 {g : jm_G} (hg : jm_HC g) : g.1[101]? = some (.inl 8) := by rw [hg.1]; rfl
theorem cC102 {g : jm_G} (hg : jm_HC g) : g.1[102]? = some (.inl 8) := by rw [hg.1]; rfl
theorem cC103 {g : jm_G} (hg : jm_HC g) : g.1[103]? = some (.inl 140) := by rw [hg.1]; rfl
theorem cC104 {g : jm_G} (hg : jm_HC g) : g.1[104]? = some (.inl 200) := by rw [hg.1]; rfl
theorem cC105 {g : jm_G} (hg : jm_HC g) : g.1[105]? = some (.inl 600) := by rw [hg.1]; rfl
theorem cC106 {g : jm_G} (hg : jm_HC g) : g.1[106]? = some (.inr (.inr (.inr (1, [none, none, some 107, some 108, none, some 109, none, some 110, none, some 111])))) := by rw [hg.1]; rfl
theorem cC107 {g : jm_G} (hg : jm_HC g) : g.1[107]? = some (.inl 8) := by rw [hg.1]; rfl
theorem cC108 {g : jm_G} (hg : jm_HC g) : g.1[108]? = some (.inl 8) := by rw [hg.1]; rfl
theorem cC109 {g : jm_G} (hg : jm_HC g) : g.1[109]? = some (.inl 140) := by rw [hg.1]; rfl
theorem cC110 {g : jm_G} (hg : jm_HC g) : g.1[110]? = some (.inl 200) := by rw [hg.1]; rfl
theorem cC111 {g : jm_G} (hg : jm_HC g) : g.1[111]? = some (.inl 600) := by rw [hg.1]; rfl
theorem cC112 {g : jm_G} (hg : jm_HC g) : g.1[112]? = some (.inr (.inr (.inr (1, [none, none, some 113, some 114, none, some 115, none, some 116, none, some 117])))) := by rw [hg.1]; rfl
theorem cC113 {g : jm_G} (hg : jm_HC g) : g.1[113]? = some (.inl 8) := by rw [hg.1]; rfl
theorem cC114 {g : jm_G} (hg : jm_HC g) : g.1[114]? = some (.inl 8) := by rw [hg.1]; rfl
theorem cC115 {g : jm_G} (hg : jm_HC g) : g.1[115]? = some (.inl 140) := by rw [hg.1]; rfl
theorem cC116 {g : jm_G} (hg : jm_HC g) : g.1[116]? = some (.inl 200) := by rw [hg.1]; rfl
theorem cC117 {g : jm_G} (hg : jm_HC g) : g.1[117]? = some (.inl 600) := by rw [hg.1]; rfl
theorem cC118 {g : jm_G} (hg : jm_HC g) : g.1[118]? = some (.inr (.inr (.inr (1, [none, none, some 119, some 120, none, some 121, none, some 122, none, some 123])))) := by rw [hg.1]; rfl
theorem cC119 {g : jm_G} (hg : jm_HC g) : g.1[119]? = some (.inl 8) := by rw [hg.1]; rfl
theorem cC120 {g : jm_G} (hg : jm_HC g) : g.1[120]? = some (.inl 8) := by rw [hg.1]; rfl
theorem cC121 {g : jm_G} (hg : jm_HC g) : g.1[121]? = some (.inl 140) := by rw [hg.1]; rfl
theorem cC122 {g : jm_G} (hg : jm_HC g) : g.1[122]? = some (.inl 200) := by rw [hg.1]; rfl
theorem cC123 {g : jm_G} (hg : jm_HC g) : g.1[123]? = some (.inl 600) := by rw [hg.1]; rfl
theorem cC124 {g : jm_G} (hg : jm_HC g) : g.1[124]? = some (.inr (.inr (.inr (1, [none, none, some 125, some 126, none, some 127, none, some 128, none, some 129])))) := by rw [hg.1]; rfl
theorem cC125 {g : jm_G} (hg : jm_HC g) : g.1[125]? = some (.inl 8) := by rw [hg.1]; rfl
theorem cC126 {g : jm_G} (hg : jm_HC g) : g.1[126]? = some (.inl 8) := by rw [hg.1]; rfl
theorem cC127 {g : jm_G} (hg : jm_HC g) : g.1[127]? = some (.inl 140) := by rw [hg.1]; rfl
theorem cC128 {g : jm_G} (hg : jm_HC g) : g.1[128]? = some (.inl 200) := by rw [hg.1]; rfl
theorem cC129 {g : jm_G} (hg : jm_HC g) : g.1[129]? = some (.inl 600) := by rw [hg.1]; rfl
theorem cR0 {g : jm_G} (hg : jm_HR g) : g.1[0]? = some (.inr (.inr (.inr (12, [none, some 1, some 2, none, none, some 3, some 4, some 5, some 6, none, none, none, some 7, none, none, none, none, none, some 8, some 9, some 10, some 11, some 12, some 13, some 14, some 15, none, none, none, some 16, none, none, none, none, none, none, some 17, some 18, none, none, some 19, some 20, some 21, some 22, some 23, some 24, some 25, some 26, none, none, none, some 27, none, some 28, some 29, none, none, none, some 30])))) := by rw [show g.1 = jm_LR from hg]; rfl
theorem cR1 {g : jm_G} (hg : jm_HR g) : g.1[1]? = some (.inl 22) := by rw [show g.1 = jm_LR from hg]; rfl
theorem cR2 {g : jm_G} (hg : jm_HR g) : g.1[2]? = some (.inl 132) := by rw [show g.1 = jm_LR from hg]; rfl
theorem cR3 {g : jm_G} (hg : jm_HR g) : g.1[3]? = some (.inl 8) := by rw [show g.1 = jm_LR from hg]; rfl
theorem cR4 {g : jm_G} (hg : jm_HR g) : g.1[4]? = some (.inl 8) := by rw [show g.1 = jm_LR from hg]; rfl
theorem cR5 {g : jm_G} (hg : jm_HR g) : g.1[5]? = some (.inl 8) := by rw [show g.1 = jm_LR from hg]; rfl
theorem cR6 {g : jm_G} (hg : jm_HR g) : g.1[6]? = some (.inl 48) := by rw [show g.1 = jm_LR from hg]; rfl
theorem cR7 {g : jm_G} (hg : jm_HR g) : g.1[7]? = some (.inl 400) := by rw [show g.1 = jm_LR from hg]; rfl
theorem cR8 {g : jm_G} (hg : jm_HR g) : g.1[8]? = some (.inl 143) := by rw [show g.1 = jm_LR from hg]; rfl
theorem cR9 {g : jm_G} (hg : jm_HR g) : g.1[9]? = some (.inl 2) := by rw [show g.1 = jm_LR from hg]; rfl
theorem cR10 {g : jm_G} (hg : jm_HR g) : g.1[10]? = some (.inl 48) := by rw [show g.1 = jm_LR from hg]; rfl
theorem cR11 {g : jm_G} (hg : jm_HR g) : g.1[11]? = some (.inl 48) := by rw [show g.1 = jm_LR from hg]; rfl
theorem cR12 {g : jm_G} (hg : jm_HR g) : g.1[12]? = some (.inl 48) := by rw [show g.1 = jm_LR from hg]; rfl
theorem cR13 {g : jm_G} (hg : jm_HR g) : g.1[13]? = some (.inl 48) := by rw [show g.1 = jm_LR from hg]; rfl
theorem cR14 {g : jm_G} (hg : jm_HR g) : g.1[14]? = some (.inl 1200) := by rw [show g.1 = jm_LR from hg]; rfl
theorem cR15 {g : jm_G} (hg : jm_HR g) : g.1[15]? = some (.inl 1200) := by rw [show g.1 = jm_LR from hg]; rfl
theorem cR16 {g : jm_G} (hg : jm_HR g) : g.1[16]? = some (.inl 40) := by rw [show g.1 = jm_LR from hg]; rfl
theorem cR17 {g : jm_G} (hg : jm_HR g) : g.1[17]? = some (.inl 384) := by rw [show g.1 = jm_LR from hg]; rfl
theorem cR18 {g : jm_G} (hg : jm_HR g) : g.1[18]? = some (.inl 800) := by rw [show g.1 = jm_LR from hg]; rfl
theorem cR19 {g : jm_G} (hg : jm_HR g) : g.1[19]? = some (.inl 480) := by rw [show g.1 = jm_LR from hg]; rfl
theorem cR20 {g : jm_G} (hg : jm_HR g) : g.1[20]? = some (.inl 4) := by rw [show g.1 = jm_LR from hg]; rfl
theorem cR21 {g : jm_G} (hg : jm_HR g) : g.1[21]? = some (.inl 4) := by rw [show g.1 = jm_LR from hg]; rfl
theorem cR22 {g : jm_G} (hg : jm_HR g) : g.1[22]? = some (.inl 11) := by rw [show g.1 = jm_LR from hg]; rfl
theorem cR23 {g : jm_G} (hg : jm_HR g) : g.1[23]? = some (.inl 420) := by rw [show g.1 = jm_LR from hg]; rfl
theorem cR24 {g : jm_G} (hg : jm_HR g) : g.1[24]? = some (.inl 120) := by rw [show g.1 = jm_LR from hg]; rfl
theorem cR25 {g : jm_G} (hg : jm_HR g) : g.1[25]? = some (.inl 200) := by rw [show g.1 = jm_LR from hg]; rfl
theorem cR26 {g : jm_G} (hg : jm_HR g) : g.1[26]? = some (.inl 600) := by rw [show g.1 = jm_LR from hg]; rfl
theorem cR27 {g : jm_G} (hg : jm_HR g) : g.1[27]? = some (.inl 10) := by rw [show g.1 = jm_LR from hg]; rfl
theorem cR28 {g : jm_G} (hg : jm_HR g) : g.1[28]? = some (.inl 12) := by rw [show g.1 = jm_LR from hg]; rfl
theorem cR29 {g : jm_G} (hg : jm_HR g) : g.1[29]? = some (.inl 24) := by rw [show g.1 = jm_LR from hg]; rfl
theorem cR30 {g : jm_G} (hg : jm_HR g) : g.1[30]? = some (.inl 2700) := by rw [show g.1 = jm_LR from hg]; rfl
theorem nwX7_51 {g : jm_G} (hg : jm_HC g) (s : State) (h : g.2.2.2.2 s) : va_Nw (.methodLinkNest RX7 51 yX11_isWithin "SungEvidence") s := hg.2.1 _ (List.mem_of_getElem? (i := 0) rfl) s h
theorem nwX4_32 {g : jm_G} (hg : jm_HC g) (s : State) (h : g.2.2.2.2 s) : va_Nw (.methodLinkNest RX4 32 yX11_isWithin "SungEvidence") s := hg.2.1 _ (List.mem_of_getElem? (i := 1) rfl) s h
theorem nwX6_94 {g : jm_G} (hg : jm_HC g) (s : State) (h : g.2.2.2.2 s) : va_Nw (.methodLinkNest RX6 94 yX11_isWithin "SungEvidence") s := hg.2.1 _ (List.mem_of_getElem? (i := 2) rfl) s h
theorem nwX8_84 {g : jm_G} (hg : jm_HC g) (s : State) (h : g.2.2.2.2 s) : va_Nw (.methodLinkNest RX8 84 yX11_isFact "SungEvidence") s := hg.2.1 _ (List.mem_of_getElem? (i := 3) rfl) s h
theorem nwX5_30 {g : jm_G} (hg : jm_HC g) (s : State) (h : g.2.2.2.2 s) : va_Nw (.methodLinkNest RX5 30 yX11_isWithin "SungEvidence") s := hg.2.1 _ (List.mem_of_getElem? (i := 4) rfl) s h
theorem nwX0_62 {g : jm_G} (hg : jm_HC g) (s : State) (h : g.2.2.2.2 s) : va_Nw (.methodLinkNest RX0 62 yX11_isWithin "SungEvidence") s := hg.2.1 _ (List.mem_of_getElem? (i := 5) rfl) s h
theorem nwX0_80 {g : jm_G} (hg : jm_HC g) (s : State) (h : g.2.2.2.2 s) : va_Nw (.methodLinkNest RX0 80 yX11_held "SungEvidence") s := hg.2.1 _ (List.mem_of_getElem? (i := 6) rfl) s h
theorem nwX1_59 {g : jm_G} (hg : jm_HC g) (s : State) (h : g.2.2.2.2 s) : va_Nw (.methodLinkNest RX1 59 yX11_isWithin "SungEvidence") s := hg.2.1 _ (List.mem_of_getElem? (i := 7) rfl) s h
theorem uX0 : ∀ w ∈ u_ws RX0 TX0 3, w ∈ jm_T := jm_up [302, 304, 306] (by decide +kernel) (by decide +kernel)
theorem ftX0 : jm_ft 0 tyX0 := fun q h => by cases h; exact ⟨tyX0_ok, nmX0⟩
theorem uX1 : ∀ w ∈ u_ws RX1 TX1 10, w ∈ jm_T := jm_up [266, 268, 270, 272, 274, 276, 278, 280, 282, 284] (by decide +kernel) (by decide +kernel)
theorem ftX1 : jm_ft 1 tyX1 := fun q h => by cases h; exact ⟨tyX1_ok, nmX1⟩
theorem uX2 : ∀ w ∈ u_ws RX2 TX2 3, w ∈ jm_T := jm_up [318, 320, 322] (by decide +kernel) (by decide +kernel)
theorem ftX2 : jm_ft 2 tyX2 := fun q h => by cases h; exact ⟨tyX2_ok, nmX2⟩
theorem uX3 : ∀ w ∈ u_ws RX3 TX3 8, w ∈ jm_T := jm_up [110, 112, 114, 116, 118, 120, 122, 124] (by decide +kernel) (by decide +kernel)
theorem ftX3 : jm_ft 3 tyX3 := fun q h => by cases h; exact ⟨tyX3_ok, nmX3⟩
theorem uX4 : ∀ w ∈ u_ws RX4 TX4 2, w ∈ jm_T := jm_up [390, 392] (by decide +kernel) (by decide +kernel)
theorem ftX4 : jm_ft 4 tyX4 := fun q h => by cases h; exact ⟨tyX4_ok, nmX4⟩
theorem uX5 : ∀ w ∈ u_ws RX5 TX5 3, w ∈ jm_T := jm_up [88, 90, 92] (by decide +kernel) (by decide +kernel)
theorem ftX5 : jm_ft 5 tyX5 := fun q h => by cases h; exact ⟨tyX5_ok, nmX5⟩
theorem uX6 : ∀ w ∈ u_ws RX6 TX6 8, w ∈ jm_T := jm_up [147, 149, 151, 153, 155, 157, 159, 161] (by decide +kernel) (by decide +kernel)
theorem ftX6 : jm_ft 6 tyX6 := fun q h => by cases h; exact ⟨tyX6_ok, nmX6⟩
theorem uX7 : ∀ w ∈ u_ws RX7 TX7 9, w ∈ jm_T := jm_up [48, 50, 52, 54, 56, 58, 60, 62, 64] (by decide +kernel) (by decide +kernel)
theorem ftX7 : jm_ft 7 tyX7 := fun q h => by cases h; exact ⟨tyX7_ok, nmX7⟩
theorem uX8 : ∀ w ∈ u_ws RX8 TX8 13, w ∈ jm_T := jm_up [206, 208, 210, 212, 214, 216, 218, 220, 222, 224, 226, 228, 230] (by decide +kernel) (by decide +kernel)
theorem ftX8 : jm_ft 8 tyX8 := fun q h => by cases h; exact ⟨tyX8_ok, nmX8⟩
theorem uX9 : ∀ w ∈ u_ws RX9 TX9 7, w ∈ jm_T := jm_up [361, 363, 365, 367, 369, 371, 373] (by decide +kernel) (by decide +kernel)
theorem ftX9 : jm_ft 9 tyX9 := fun q h => by cases h; exact ⟨tyX9_ok, nmX9⟩
theorem uX10 : ∀ w ∈ u_ws RX10 TX10 5, w ∈ jm_T := jm_up [336, 338, 340, 342, 344] (by decide +kernel) (by decide +kernel)
theorem ftX10 : jm_ft 10 tyX10 := fun q h => by cases h; exact ⟨tyX10_ok, nmX10⟩
theorem uX11 : ∀ w ∈ u_ws RX11 TX11 17, w ∈ jm_T := jm_up [413, 415, 417, 419, 421, 423, 425, 427, 429, 431, 433, 435, 437, 439, 441, 443, 445] (by decide +kernel) (by decide +kernel)
theorem ftX11 : jm_ft 11 tyX11 := fun q h => by cases h; exact ⟨tyX11_ok, nmX11⟩
theorem uX12 : ∀ w ∈ u_ws RX12 TX12 59, w ∈ jm_T := jm_up [1303, 1305, 1307, 1309, 1311, 1313, 1315, 1317, 1319, 1321, 1323, 1325, 1327, 1329, 1331, 1333, 1335, 1337, 1339, 1341, 1343, 1345, 1347, 1349, 1351, 1353, 1355, 1357, 1359, 1361, 1363, 1365, 1367, 1369, 1371, 1373, 1375, 1377, 1379, 1381, 1383, 1385, 1387, 1389, 1391, 1393, 1395, 1397, 1399, 1401, 1403, 1405, 1407, 1409, 1411, 1413, 1415, 1417, 1419] (by decide +kernel) (by decide +kernel)
theorem ftX12 : jm_ft 12 tyX12 := fun q h => by cases h; exact ⟨tyX12_ok, nmX12⟩
