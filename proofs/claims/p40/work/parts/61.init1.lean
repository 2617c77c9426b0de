noncomputable def Sh0 : aS := (fun _ => 99, fun _ => 0, fun _ _ => none, fun _ _ => none, 0)
noncomputable def He0 : aH := (fun _ _ => 0, fun _ _ => 0, fun _ _ => 0)
noncomputable def Sh1 : aS := sNew Sh0 10
noncomputable def He1 : aH := hNew He0 (nx Sh0)
noncomputable def Sh2 : aS := sNew Sh1 5
noncomputable def He2 : aH := hNew He1 (nx Sh1)
noncomputable def Sh3 : aS := sArr Sh2 20 64
noncomputable def He3 : aH := hArr He2 (nx Sh2)
noncomputable def Sh4 : aS := sfr Sh3 1 0 2
noncomputable def Sh5 : aS := sArr Sh4 20 64
noncomputable def He4 : aH := hArr He3 (nx Sh4)
noncomputable def Sh6 : aS := sfr Sh5 1 1 3
noncomputable def Sh7 : aS := sArr Sh6 20 10
noncomputable def He5 : aH := hArr He4 (nx Sh6)
noncomputable def Sh8 : aS := sfr Sh7 1 2 4
noncomputable def Sh9 : aS := sArr Sh8 20 10
noncomputable def He6 : aH := hArr He5 (nx Sh8)
noncomputable def Sh10 : aS := sfr Sh9 1 3 5
noncomputable def He7 : aH := sfi He6 1 4 (27 : Int32)
noncomputable def He8 : aH := sfi He7 1 5 (3 : Int32)
noncomputable def He9 : aH := sfi He8 1 6 (3 : Int32)
noncomputable def He10 : aH := sri He9 3 0 (4 : Int32)
noncomputable def He11 : aH := sri He10 3 1 (4 : Int32)
noncomputable def He12 : aH := sri He11 3 2 (4 : Int32)
noncomputable def He13 : aH := sri He12 3 3 (4 : Int32)
noncomputable def He14 : aH := sri He13 3 4 (4 : Int32)
noncomputable def He15 : aH := sri He14 3 5 (4 : Int32)
noncomputable def He16 : aH := sri He15 3 6 (4 : Int32)
noncomputable def He17 : aH := sri He16 3 7 (4 : Int32)
noncomputable def He18 : aH := sri He17 3 8 (4 : Int32)
noncomputable def He19 : aH := sri He18 3 9 (4 : Int32)
noncomputable def He20 : aH := sri He19 3 10 (4 : Int32)
noncomputable def He21 : aH := sri He20 3 11 (4 : Int32)
noncomputable def He22 : aH := sri He21 3 12 (4 : Int32)
noncomputable def He23 : aH := sri He22 3 13 (4 : Int32)
noncomputable def He24 : aH := sri He23 3 14 (4 : Int32)
noncomputable def He25 : aH := sri He24 3 15 (4 : Int32)
noncomputable def He26 : aH := sri He25 3 16 (4 : Int32)
noncomputable def He27 : aH := sri He26 3 17 (4 : Int32)
noncomputable def He28 : aH := sri He27 3 18 (4 : Int32)
noncomputable def He29 : aH := sri He28 3 19 (4 : Int32)
noncomputable def He30 : aH := sri He29 3 20 (4 : Int32)
noncomputable def He31 : aH := sri He30 3 21 (4 : Int32)
noncomputable def He32 : aH := sri He31 3 22 (4 : Int32)
noncomputable def He33 : aH := sri He32 3 23 (4 : Int32)
noncomputable def He34 : aH := sri He33 3 24 (4 : Int32)
noncomputable def He35 : aH := sri He34 3 25 (4 : Int32)
noncomputable def He36 : aH := sri He35 3 26 (4 : Int32)
noncomputable def He37 : aH := sri He36 3 27 (4 : Int32)
noncomputable def He38 : aH := sri He37 3 28 (4 : Int32)
noncomputable def He39 : aH := sri He38 3 29 (4 : Int32)
noncomputable def He40 : aH := sri He39 3 30 (4 : Int32)
noncomputable def He41 : aH := sri He40 3 31 (4 : Int32)
noncomputable def He42 : aH := sri He41 3 32 (4 : Int32)
noncomputable def He43 : aH := sri He42 3 33 (4 : Int32)
noncomputable def He44 : aH := sri He43 3 34 (4 : Int32)
noncomputable def He45 : aH := sri He44 3 35 (4 : Int32)
noncomputable def He46 : aH := sri He45 3 36 (4 : Int32)
noncomputable def He47 : aH := sri He46 3 37 (4 : Int32)
noncomputable def He48 : aH := sri He47 3 38 (4 : Int32)
noncomputable def He49 : aH := sri He48 3 39 (4 : Int32)
noncomputable def He50 : aH := sri He49 3 40 (4 : Int32)
noncomputable def He51 : aH := sri He50 3 41 (4 : Int32)
noncomputable def He52 : aH := sri He51 3 42 (4 : Int32)
noncomputable def He53 : aH := sri He52 3 43 (4 : Int32)
noncomputable def He54 : aH := sri He53 3 44 (4 : Int32)
noncomputable def He55 : aH := sri He54 3 45 (4 : Int32)
noncomputable def He56 : aH := sri He55 3 46 (4 : Int32)
noncomputable def He57 : aH := sri He56 3 47 (4 : Int32)
noncomputable def He58 : aH := sri He57 3 48 (4 : Int32)
noncomputable def He59 : aH := sri He58 3 49 (4 : Int32)
noncomputable def He60 : aH := sri He59 3 50 (4 : Int32)
noncomputable def He61 : aH := sri He60 3 51 (4 : Int32)
noncomputable def He62 : aH := sri He61 3 52 (4 : Int32)
noncomputable def He63 : aH := sri He62 3 53 (4 : Int32)
noncomputable def He64 : aH := sri He63 3 54 (4 : Int32)
noncomputable def He65 : aH := sri He64 3 55 (4 : Int32)
noncomputable def He66 : aH := sri He65 3 56 (4 : Int32)
noncomputable def He67 : aH := sri He66 3 57 (4 : Int32)
noncomputable def He68 : aH := sri He67 3 58 (4 : Int32)
noncomputable def He69 : aH := sri He68 3 59 (4 : Int32)
noncomputable def He70 : aH := sri He69 3 60 (4 : Int32)
noncomputable def He71 : aH := sri He70 3 61 (4 : Int32)
noncomputable def He72 : aH := sri He71 3 62 (4 : Int32)
noncomputable def He73 : aH := sri He72 3 63 (4 : Int32)
noncomputable def Sh11 : aS := sfr Sh10 0 0 1
noncomputable def Sh12 : aS := sNew Sh11 9
noncomputable def He74 : aH := hNew He73 (nx Sh11)
noncomputable def Sh13 : aS := sArr Sh12 20 120
noncomputable def He75 : aH := hArr He74 (nx Sh12)
noncomputable def Sh14 : aS := sfr Sh13 6 0 7
noncomputable def Sh15 : aS := sArr Sh14 20 128
noncomputable def He76 : aH := hArr He75 (nx Sh14)
noncomputable def Sh16 : aS := sfr Sh15 6 3 8
noncomputable def Sh17 : aS := sArr Sh16 20 128
noncomputable def He77 : aH := hArr He76 (nx Sh16)
noncomputable def Sh18 : aS := sfr Sh17 6 4 9
noncomputable def Sh19 : aS := sfr Sh18 0 1 6
noncomputable def Sh20 : aS := sNew Sh19 3
noncomputable def He78 : aH := hNew He77 (nx Sh19)
noncomputable def Sh21 : aS := sArr Sh20 20 128
noncomputable def He79 : aH := hArr He78 (nx Sh20)
noncomputable def Sh22 : aS := sfr Sh21 10 0 11
noncomputable def Sh23 : aS := sArr Sh22 20 128
noncomputable def He80 : aH := hArr He79 (nx Sh22)
noncomputable def Sh24 : aS := sfr Sh23 10 1 12
noncomputable def Sh25 : aS := sArr Sh24 20 6
noncomputable def He81 : aH := hArr He80 (nx Sh24)
noncomputable def Sh26 : aS := sfr Sh25 10 3 13
noncomputable def Sh27 : aS := sArr Sh26 20 128
noncomputable def He82 : aH := hArr He81 (nx Sh26)
noncomputable def Sh28 : aS := sfr Sh27 10 4 14
noncomputable def Sh29 : aS := sfr Sh28 0 2 10
noncomputable def Sh30 : aS := sNew Sh29 8
noncomputable def He83 : aH := hNew He82 (nx Sh29)
noncomputable def Sh31 : aS := sArr Sh30 20 10
noncomputable def He84 : aH := hArr He83 (nx Sh30)
noncomputable def Sh32 : aS := sfr Sh31 15 2 16
noncomputable def Sh33 : aS := sArr Sh32 20 5
noncomputable def He85 : aH := hArr He84 (nx Sh32)
noncomputable def Sh34 : aS := sfr Sh33 15 3 17
noncomputable def Sh35 : aS := sArr Sh34 20 10
noncomputable def He86 : aH := hArr He85 (nx Sh34)
noncomputable def Sh36 : aS := sfr Sh35 15 4 18
noncomputable def He87 : aH := sfi He86 15 7 (50 : Int32)
noncomputable def Sh37 : aS := sfr Sh36 15 0 1
noncomputable def Sh38 : aS := sfr Sh37 15 1 10
noncomputable def Sh39 : aS := sfr Sh38 0 3 15
noncomputable def Sh40 : aS := sNew Sh39 8
noncomputable def He88 : aH := hNew He87 (nx Sh39)
noncomputable def Sh41 : aS := sArr Sh40 20 10
noncomputable def He89 : aH := hArr He88 (nx Sh40)
noncomputable def Sh42 : aS := sfr Sh41 19 2 20
noncomputable def Sh43 : aS := sArr Sh42 20 5
noncomputable def He90 : aH := hArr He89 (nx Sh42)
noncomputable def Sh44 : aS := sfr Sh43 19 3 21
noncomputable def Sh45 : aS := sArr Sh44 20 10
noncomputable def He91 : aH := hArr He90 (nx Sh44)
noncomputable def Sh46 : aS := sfr Sh45 19 4 22
noncomputable def He92 : aH := sfi He91 19 7 (50 : Int32)
noncomputable def Sh47 : aS := sfr Sh46 19 0 1
noncomputable def Sh48 : aS := sfr Sh47 19 1 10
noncomputable def Sh49 : aS := sfr Sh48 0 4 19
noncomputable def Sh50 : aS := sNew Sh49 6
noncomputable def He93 : aH := hNew He92 (nx Sh49)
noncomputable def Sh51 : aS := sArr Sh50 (22 + 0) 5
noncomputable def He94 : aH := hArr He93 (nx Sh50)
noncomputable def Sh52 : aS := sfr Sh51 23 0 24
noncomputable def Sh53 : aS := sArr Sh52 20 625
noncomputable def He95 : aH := hArr He94 (nx Sh52)
noncomputable def Sh54 : aS := sfr Sh53 23 1 25
noncomputable def Sh55 : aS := sArr Sh54 20 10
noncomputable def He96 : aH := hArr He95 (nx Sh54)
noncomputable def Sh56 : aS := sfr Sh55 23 6 26
noncomputable def Sh57 : aS := sNew Sh56 8
noncomputable def He97 : aH := hNew He96 (nx Sh56)
noncomputable def Sh58 : aS := sArr Sh57 20 10
noncomputable def He98 : aH := hArr He97 (nx Sh57)
noncomputable def Sh59 : aS := sfr Sh58 27 2 28
noncomputable def Sh60 : aS := sArr Sh59 20 5
noncomputable def He99 : aH := hArr He98 (nx Sh59)
noncomputable def Sh61 : aS := sfr Sh60 27 3 29
noncomputable def Sh62 : aS := sArr Sh61 20 10
noncomputable def He100 : aH := hArr He99 (nx Sh61)
noncomputable def Sh63 : aS := sfr Sh62 27 4 30
noncomputable def He101 : aH := sfi He100 27 7 (50 : Int32)
noncomputable def Sh64 : aS := sfr Sh63 27 0 1
noncomputable def Sh65 : aS := sfr Sh64 27 1 10
noncomputable def Sh66 : aS := srr Sh65 24 (nI 0).toNatClampNeg 27
noncomputable def Sh67 : aS := sNew Sh66 8
noncomputable def He102 : aH := hNew He101 (nx Sh66)
noncomputable def Sh68 : aS := sArr Sh67 20 10
noncomputable def He103 : aH := hArr He102 (nx Sh67)
noncomputable def Sh69 : aS := sfr Sh68 31 2 32
noncomputable def Sh70 : aS := sArr Sh69 20 5
noncomputable def He104 : aH := hArr He103 (nx Sh69)
noncomputable def Sh71 : aS := sfr Sh70 31 3 33
noncomputable def Sh72 : aS := sArr Sh71 20 10
noncomputable def He105 : aH := hArr He104 (nx Sh71)
noncomputable def Sh73 : aS := sfr Sh72 31 4 34
noncomputable def He106 : aH := sfi He105 31 7 (50 : Int32)
noncomputable def Sh74 : aS := sfr Sh73 31 0 1
noncomputable def Sh75 : aS := sfr Sh74 31 1 10
noncomputable def Sh76 : aS := srr Sh75 24 (nI 1).toNatClampNeg 31
noncomputable def Sh77 : aS := sNew Sh76 8
noncomputable def He107 : aH := hNew He106 (nx Sh76)
noncomputable def Sh78 : aS := sArr Sh77 20 10
noncomputable def He108 : aH := hArr He107 (nx Sh77)
noncomputable def Sh79 : aS := sfr Sh78 35 2 36
noncomputable def Sh80 : aS := sArr Sh79 20 5
noncomputable def He109 : aH := hArr He108 (nx Sh79)
noncomputable def Sh81 : aS := sfr Sh80 35 3 37
noncomputable def Sh82 : aS := sArr Sh81 20 10
noncomputable def He110 : aH := hArr He109 (nx Sh81)
noncomputable def Sh83 : aS := sfr Sh82 35 4 38
noncomputable def He111 : aH := sfi He110 35 7 (50 : Int32)
noncomputable def Sh84 : aS := sfr Sh83 35 0 1
noncomputable def Sh85 : aS := sfr Sh84 35 1 10
noncomputable def Sh86 : aS := srr Sh85 24 (nI 2).toNatClampNeg 35
noncomputable def Sh87 : aS := sNew Sh86 8
noncomputable def He112 : aH := hNew He111 (nx Sh86)
noncomputable def Sh88 : aS := sArr Sh87 20 10
noncomputable def He113 : aH := hArr He112 (nx Sh87)
noncomputable def Sh89 : aS := sfr Sh88 39 2 40
noncomputable def Sh90 : aS := sArr Sh89 20 5
noncomputable def He114 : aH := hArr He113 (nx Sh89)
noncomputable def Sh91 : aS := sfr Sh90 39 3 41
noncomputable def Sh92 : aS := sArr Sh91 20 10
noncomputable def He115 : aH := hArr He114 (nx Sh91)
noncomputable def Sh93 : aS := sfr Sh92 39 4 42
noncomputable def He116 : aH := sfi He115 39 7 (50 : Int32)
noncomputable def Sh94 : aS := sfr Sh93 39 0 1
noncomputable def Sh95 : aS := sfr Sh94 39 1 10
noncomputable def Sh96 : aS := srr Sh95 24 (nI 3).toNatClampNeg 39
noncomputable def Sh97 : aS := sNew Sh96 8
noncomputable def He117 : aH := hNew He116 (nx Sh96)
noncomputable def Sh98 : aS := sArr Sh97 20 10
noncomputable def He118 : aH := hArr He117 (nx Sh97)
noncomputable def Sh99 : aS := sfr Sh98 43 2 44
noncomputable def Sh100 : aS := sArr Sh99 20 5
noncomputable def He119 : aH := hArr He118 (nx Sh99)
noncomputable def Sh101 : aS := sfr Sh100 43 3 45
noncomputable def Sh102 : aS := sArr Sh101 20 10
noncomputable def He120 : aH := hArr He119 (nx Sh101)
noncomputable def Sh103 : aS := sfr Sh102 43 4 46
noncomputable def He121 : aH := sfi He120 43 7 (50 : Int32)
noncomputable def Sh104 : aS := sfr Sh103 43 0 1
noncomputable def Sh105 : aS := sfr Sh104 43 1 10
noncomputable def Sh106 : aS := srr Sh105 24 (nI 4).toNatClampNeg 43
noncomputable def Sh107 : aS := sfr Sh106 0 5 23
noncomputable def Sh108 : aS := sNew Sh107 2
noncomputable def He122 : aH := hNew He121 (nx Sh107)
noncomputable def Sh109 : aS := sfr Sh108 47 0 1
noncomputable def Sh110 : aS := sfr Sh109 0 6 47
noncomputable def Sh111 : aS := sNew Sh110 4
noncomputable def He123 : aH := hNew He122 (nx Sh110)
noncomputable def Sh112 : aS := sArr Sh111 20 20
noncomputable def He124 : aH := hArr He123 (nx Sh111)
noncomputable def Sh113 : aS := sfr Sh112 48 0 49
noncomputable def Sh114 : aS := sArr Sh113 20 20
noncomputable def He125 : aH := hArr He124 (nx Sh113)
noncomputable def Sh115 : aS := sfr Sh114 48 1 50
noncomputable def Sh116 : aS := sArr Sh115 20 1024
noncomputable def He126 : aH := hArr He125 (nx Sh115)
noncomputable def Sh117 : aS := sfr Sh116 48 4 51
noncomputable def Sh118 : aS := sfr Sh117 0 7 48
noncomputable def Sh119 : aS := sNew Sh118 1
noncomputable def He127 : aH := hNew He126 (nx Sh118)
noncomputable def Sh120 : aS := sArr Sh119 20 40
noncomputable def He128 : aH := hArr He127 (nx Sh119)
noncomputable def Sh121 : aS := sfr Sh120 52 0 53
noncomputable def Sh122 : aS := sArr Sh121 20 40
noncomputable def He129 : aH := hArr He128 (nx Sh121)
noncomputable def Sh123 : aS := sfr Sh122 52 1 54
noncomputable def Sh124 : aS := sArr Sh123 20 40
noncomputable def He130 : aH := hArr He129 (nx Sh123)
noncomputable def Sh125 : aS := sfr Sh124 52 2 55
noncomputable def Sh126 : aS := sArr Sh125 20 40
noncomputable def He131 : aH := hArr He130 (nx Sh125)
noncomputable def Sh127 : aS := sfr Sh126 52 3 56
noncomputable def Sh128 : aS := sfr Sh127 0 8 52
noncomputable def Sh129 : aS := sNew Sh128 0
noncomputable def He132 : aH := hNew He131 (nx Sh128)
noncomputable def Sh130 : aS := sArr Sh129 20 50
noncomputable def He133 : aH := hArr He132 (nx Sh129)
noncomputable def Sh131 : aS := sfr Sh130 57 0 58
noncomputable def Sh132 : aS := sArr Sh131 20 24
noncomputable def He134 : aH := hArr He133 (nx Sh131)
noncomputable def Sh133 : aS := sfr Sh132 57 2 59
noncomputable def Sh134 : aS := sfr Sh133 0 9 57
noncomputable def Sh135 : aS := sArr Sh134 (22 + 1) 6
noncomputable def He135 : aH := hArr He134 (nx Sh134)
noncomputable def Sh136 : aS := sfr Sh135 0 10 60
noncomputable def Sh137 : aS := sNew Sh136 7
noncomputable def He136 : aH := hNew He135 (nx Sh136)
noncomputable def Sh138 : aS := sArr Sh137 21 60
noncomputable def He137 : aH := hArr He136 (nx Sh137)
noncomputable def Sh139 : aS := sfr Sh138 61 0 62
noncomputable def He138 : aH := sfi He137 61 1 (-1 : Int32)
noncomputable def He139 : aH := sfi He138 61 3 (-1 : Int32)
noncomputable def Sh140 : aS := srr Sh139 60 (nI 0).toNatClampNeg 61
noncomputable def Sh141 : aS := sNew Sh140 7
noncomputable def He140 : aH := hNew He139 (nx Sh140)
noncomputable def Sh142 : aS := sArr Sh141 21 60
noncomputable def He141 : aH := hArr He140 (nx Sh141)
noncomputable def Sh143 : aS := sfr Sh142 63 0 64
noncomputable def He142 : aH := sfi He141 63 1 (-1 : Int32)
noncomputable def He143 : aH := sfi He142 63 3 (-1 : Int32)
noncomputable def Sh144 : aS := srr Sh143 60 (nI 1).toNatClampNeg 63
noncomputable def Sh145 : aS := sNew Sh144 7
noncomputable def He144 : aH := hNew He143 (nx Sh144)
noncomputable def Sh146 : aS := sArr Sh145 21 60
noncomputable def He145 : aH := hArr He144 (nx Sh145)
noncomputable def Sh147 : aS := sfr Sh146 65 0 66
noncomputable def He146 : aH := sfi He145 65 1 (-1 : Int32)
noncomputable def He147 : aH := sfi He146 65 3 (-1 : Int32)
noncomputable def Sh148 : aS := srr Sh147 60 (nI 2).toNatClampNeg 65
noncomputable def Sh149 : aS := sNew Sh148 7
noncomputable def He148 : aH := hNew He147 (nx Sh148)
noncomputable def Sh150 : aS := sArr Sh149 21 60
noncomputable def He149 : aH := hArr He148 (nx Sh149)
noncomputable def Sh151 : aS := sfr Sh150 67 0 68
noncomputable def He150 : aH := sfi He149 67 1 (-1 : Int32)
noncomputable def He151 : aH := sfi He150 67 3 (-1 : Int32)
noncomputable def Sh152 : aS := srr Sh151 60 (nI 3).toNatClampNeg 67
noncomputable def Sh153 : aS := sNew Sh152 7
noncomputable def He152 : aH := hNew He151 (nx Sh152)
noncomputable def Sh154 : aS := sArr Sh153 21 60
noncomputable def He153 : aH := hArr He152 (nx Sh153)
noncomputable def Sh155 : aS := sfr Sh154 69 0 70
noncomputable def He154 : aH := sfi He153 69 1 (-1 : Int32)
noncomputable def He155 : aH := sfi He154 69 3 (-1 : Int32)
noncomputable def Sh156 : aS := srr Sh155 60 (nI 4).toNatClampNeg 69
noncomputable def Sh157 : aS := sNew Sh156 7
noncomputable def He156 : aH := hNew He155 (nx Sh156)
noncomputable def Sh158 : aS := sArr Sh157 21 60
noncomputable def He157 : aH := hArr He156 (nx Sh157)
noncomputable def Sh159 : aS := sfr Sh158 71 0 72
noncomputable def He158 : aH := sfi He157 71 1 (-1 : Int32)
noncomputable def He159 : aH := sfi He158 71 3 (-1 : Int32)
noncomputable def Sh160 : aS := srr Sh159 60 (nI 5).toNatClampNeg 71
noncomputable def Sh161 : aS := sNew Sh160 11
noncomputable def He160 : aH := hNew He159 (nx Sh160)
noncomputable def Sh162 : aS := sArr Sh161 20 172
noncomputable def He161 : aH := hArr He160 (nx Sh161)
noncomputable def Sh163 : aS := sfr Sh162 73 0 74
noncomputable def Sh164 : aS := sArr Sh163 20 40
noncomputable def He162 : aH := hArr He161 (nx Sh163)
noncomputable def Sh165 : aS := sfr Sh164 73 1 75
noncomputable def Sh166 : aS := sArr Sh165 20 40
noncomputable def He163 : aH := hArr He162 (nx Sh165)
noncomputable def Sh167 : aS := sfr Sh166 73 2 76
noncomputable def Sh168 : aS := sArr Sh167 20 40
noncomputable def He164 : aH := hArr He163 (nx Sh167)
noncomputable def Sh169 : aS := sfr Sh168 73 3 77
noncomputable def Sh170 : aS := sArr Sh169 20 120
noncomputable def He165 : aH := hArr He164 (nx Sh169)
noncomputable def Sh171 : aS := sfr Sh170 73 7 78
noncomputable def Sh172 : aS := sArr Sh171 20 120
noncomputable def He166 : aH := hArr He165 (nx Sh171)
noncomputable def Sh173 : aS := sfr Sh172 73 9 79
noncomputable def Sh174 : aS := sArr Sh173 20 6
noncomputable def He167 : aH := hArr He166 (nx Sh173)
noncomputable def Sh175 : aS := sfr Sh174 73 16 80
noncomputable def Sh176 : aS := sArr Sh175 20 10
noncomputable def He168 : aH := hArr He167 (nx Sh175)
noncomputable def Sh177 : aS := sfr Sh176 73 17 81
noncomputable def Sh178 : aS := sArr Sh177 20 10
noncomputable def He169 : aH := hArr He168 (nx Sh177)
noncomputable def Sh179 : aS := sfr Sh178 73 18 82
noncomputable def Sh180 : aS := sArr Sh179 20 10
noncomputable def He170 : aH := hArr He169 (nx Sh179)
noncomputable def Sh181 : aS := sfr Sh180 73 23 83
noncomputable def Sh182 : aS := sArr Sh181 20 4
noncomputable def He171 : aH := hArr He170 (nx Sh181)
noncomputable def Sh183 : aS := sfr Sh182 73 24 84
noncomputable def Sh184 : aS := sArr Sh183 20 4
noncomputable def He172 : aH := hArr He171 (nx Sh183)
noncomputable def Sh185 : aS := sfr Sh184 73 25 85
noncomputable def Sh186 : aS := sArr Sh185 20 100
noncomputable def He173 : aH := hArr He172 (nx Sh185)
noncomputable def Sh187 : aS := sfr Sh186 73 28 86
noncomputable def Sh188 : aS := sArr Sh187 20 100
noncomputable def He174 : aH := hArr He173 (nx Sh187)
noncomputable def Sh189 : aS := sfr Sh188 73 29 87
noncomputable def Sh190 : aS := sArr Sh189 20 1024
noncomputable def He175 : aH := hArr He174 (nx Sh189)
noncomputable def Sh191 : aS := sfr Sh190 73 30 88
noncomputable def Sh192 : aS := sArr Sh191 20 5
noncomputable def He176 : aH := hArr He175 (nx Sh191)
noncomputable def Sh193 : aS := sfr Sh192 73 31 89
noncomputable def Sh194 : aS := sArr Sh193 20 172
noncomputable def He177 : aH := hArr He176 (nx Sh193)
noncomputable def Sh195 : aS := sfr Sh194 73 34 90
noncomputable def Sh196 : aS := sArr Sh195 20 5
noncomputable def He178 : aH := hArr He177 (nx Sh195)
noncomputable def Sh197 : aS := sfr Sh196 73 35 91
noncomputable def Sh198 : aS := sArr Sh197 20 50
noncomputable def He179 : aH := hArr He178 (nx Sh197)
noncomputable def Sh199 : aS := sfr Sh198 73 37 92
noncomputable def Sh200 : aS := sArr Sh199 20 24
noncomputable def He180 : aH := hArr He179 (nx Sh199)
noncomputable def Sh201 : aS := sfr Sh200 73 38 93
noncomputable def Sh202 : aS := sArr Sh201 20 6
noncomputable def He181 : aH := hArr He180 (nx Sh201)
noncomputable def Sh203 : aS := sfr Sh202 73 42 94
noncomputable def Sh204 : aS := sArr Sh203 20 6
noncomputable def He182 : aH := hArr He181 (nx Sh203)
noncomputable def Sh205 : aS := sfr Sh204 73 43 95
noncomputable def Sh206 : aS := sArr Sh205 21 360
noncomputable def He183 : aH := hArr He182 (nx Sh205)
noncomputable def Sh207 : aS := sfr Sh206 73 44 96
noncomputable def Sh208 : aS := sArr Sh207 21 60
noncomputable def He184 : aH := hArr He183 (nx Sh207)
noncomputable def Sh209 : aS := sfr Sh208 73 45 97
noncomputable def He185 : aH := sri He184 94 0 (-1 : Int32)
noncomputable def He186 : aH := sri He185 94 1 (-1 : Int32)
noncomputable def He187 : aH := sri He186 94 2 (-1 : Int32)
noncomputable def He188 : aH := sri He187 94 3 (-1 : Int32)
noncomputable def He189 : aH := sri He188 94 4 (-1 : Int32)
noncomputable def He190 : aH := sri He189 94 5 (-1 : Int32)
noncomputable def He191 : aH := sfi He190 73 10 (-1 : Int32)
noncomputable def He192 : aH := sri He191 74 104 (4 : Int32)
noncomputable def He193 : aH := sri He192 74 105 (4 : Int32)
noncomputable def He194 : aH := sri He193 74 106 (4 : Int32)
noncomputable def He195 : aH := sri He194 74 107 (4 : Int32)
noncomputable def He196 : aH := sri He195 74 108 (4 : Int32)
noncomputable def He197 : aH := sri He196 74 109 (4 : Int32)
noncomputable def He198 : aH := sri He197 74 110 (4 : Int32)
noncomputable def He199 : aH := sri He198 74 111 (4 : Int32)
noncomputable def He200 : aH := sri He199 74 112 (4 : Int32)
noncomputable def He201 : aH := sri He200 74 113 (4 : Int32)
noncomputable def He202 : aH := sri He201 74 114 (4 : Int32)
noncomputable def He203 : aH := sri He202 74 115 (4 : Int32)
noncomputable def He204 : aH := sri He203 74 116 (4 : Int32)
noncomputable def He205 : aH := sri He204 74 117 (4 : Int32)
noncomputable def He206 : aH := sri He205 74 118 (4 : Int32)
noncomputable def He207 : aH := sri He206 74 119 (4 : Int32)
noncomputable def He208 : aH := sri He207 74 120 (4 : Int32)
noncomputable def He209 : aH := sri He208 74 121 (4 : Int32)
noncomputable def He210 : aH := sri He209 74 122 (4 : Int32)
noncomputable def He211 : aH := sri He210 74 123 (4 : Int32)
noncomputable def He212 : aH := sri He211 74 124 (4 : Int32)
noncomputable def He213 : aH := sri He212 74 125 (4 : Int32)
noncomputable def He214 : aH := sri He213 74 126 (4 : Int32)
noncomputable def He215 : aH := sri He214 74 127 (4 : Int32)
noncomputable def He216 : aH := sri He215 74 128 (4 : Int32)
noncomputable def He217 : aH := sri He216 74 129 (4 : Int32)
noncomputable def He218 : aH := sri He217 74 130 (4 : Int32)
noncomputable def He219 : aH := sri He218 74 131 (4 : Int32)
noncomputable def He220 : aH := sri He219 74 132 (4 : Int32)
noncomputable def He221 : aH := sri He220 74 133 (4 : Int32)
noncomputable def He222 : aH := sri He221 74 134 (4 : Int32)
noncomputable def He223 : aH := sri He222 74 135 (4 : Int32)
noncomputable def He224 : aH := sri He223 74 136 (4 : Int32)
noncomputable def He225 : aH := sri He224 74 137 (4 : Int32)
noncomputable def He226 : aH := sri He225 74 138 (4 : Int32)
noncomputable def He227 : aH := sri He226 74 139 (4 : Int32)
noncomputable def He228 : aH := sri He227 74 140 (4 : Int32)
noncomputable def He229 : aH := sri He228 74 141 (4 : Int32)
noncomputable def He230 : aH := sri He229 74 142 (4 : Int32)
noncomputable def He231 : aH := sri He230 74 143 (4 : Int32)
noncomputable def He232 : aH := sri He231 74 144 (4 : Int32)
noncomputable def He233 : aH := sri He232 74 145 (4 : Int32)
noncomputable def He234 : aH := sri He233 74 146 (4 : Int32)
noncomputable def He235 : aH := sri He234 74 147 (4 : Int32)
noncomputable def He236 : aH := sri He235 74 148 (4 : Int32)
noncomputable def He237 : aH := sri He236 74 149 (4 : Int32)
noncomputable def He238 : aH := sri He237 74 150 (4 : Int32)
noncomputable def He239 : aH := sri He238 74 151 (4 : Int32)
noncomputable def He240 : aH := sri He239 74 152 (4 : Int32)
noncomputable def He241 : aH := sri He240 74 153 (4 : Int32)
noncomputable def He242 : aH := sri He241 74 154 (4 : Int32)
noncomputable def He243 : aH := sri He242 74 155 (4 : Int32)
noncomputable def He244 : aH := sri He243 74 156 (4 : Int32)
noncomputable def He245 : aH := sri He244 74 157 (4 : Int32)
noncomputable def He246 : aH := sri He245 74 158 (4 : Int32)
noncomputable def He247 : aH := sri He246 74 159 (4 : Int32)
noncomputable def He248 : aH := sri He247 74 160 (4 : Int32)
noncomputable def He249 : aH := sri He248 74 161 (4 : Int32)
noncomputable def He250 : aH := sri He249 74 162 (4 : Int32)
noncomputable def He251 : aH := sri He250 74 163 (4 : Int32)
noncomputable def He252 : aH := sri He251 74 164 (4 : Int32)
noncomputable def He253 : aH := sri He252 74 165 (4 : Int32)
noncomputable def He254 : aH := sri He253 74 166 (4 : Int32)
noncomputable def He255 : aH := sri He254 74 167 (4 : Int32)
noncomputable def He256 : aH := sri He255 74 168 (27 : Int32)
noncomputable def He257 : aH := sri He256 74 169 (50 : Int32)
noncomputable def He258 : aH := sri He257 74 170 (3 : Int32)
noncomputable def He259 : aH := sri He258 74 171 (3 : Int32)
set_option maxRecDepth 20000 in
theorem nX5_init_1 (Z : aZ) (d : Nat) (hd : 0 ≤ d) : CM Z mX5_init d 4 148 [.ref 1] Sh2 He2 (fun r S h => r = none ∧ S = Sh10 ∧ h = He73) := by
  refine CM.of mokX5_init (Nat.le_of_ble_eq_true rfl) (TJ.mono (d := 0) ?_ hd (fun _ _ _ q => q))
  show TK _ _ _ _ _ _ _ _ _ [.ref 1, .null] _
  refine T_aload dX5_init_0 rfl ?_
  refine T_objInit dX5_init_1 loX5_3 (Nat.le_of_ble_eq_true rfl) ?_
  refine T_aload dX5_init_4 rfl ?_
  refine T_const dX5_init_5 ?_
  refine T_newa (bc := 3) (bs := 84) (N := 64) (k := 20) dX5_init_7 (Or.inl ⟨rfl, rfl⟩) rfl (by decide) arrW (Nat.le_of_ble_eq_true rfl) ?_
  show TK _ _ _ _ _ Sh3 He3 _ _ _ (.ref 2 :: _)
  refine T_putF dX5_init_9 lfX5_9 rfl rfl ⟨rfl, rfl⟩ rfl (Nat.le_of_ble_eq_true rfl) ?_
  show TK _ _ _ _ _ Sh4 He3 _ _ _ _
  refine T_aload dX5_init_12 rfl ?_
  refine T_const dX5_init_13 ?_
  refine T_newa (bc := 2) (bs := 20) (N := 64) (k := 20) dX5_init_15 (Or.inl ⟨rfl, rfl⟩) rfl (by decide) arrW (Nat.le_of_ble_eq_true rfl) ?_
  show TK _ _ _ _ _ Sh5 He4 _ _ _ (.ref 3 :: _)
  refine T_putF dX5_init_17 lfX5_15 rfl rfl ⟨rfl, rfl⟩ rfl (Nat.le_of_ble_eq_true rfl) ?_
  show TK _ _ _ _ _ Sh6 He4 _ _ _ _
  refine T_aload dX5_init_20 rfl ?_
  refine T_const dX5_init_21 ?_
  refine T_newa (bc := 1) (bs := 10) (N := 10) (k := 20) dX5_init_23 (Or.inl ⟨rfl, rfl⟩) rfl (by decide) arrW (Nat.le_of_ble_eq_true rfl) ?_
  show TK _ _ _ _ _ Sh7 He5 _ _ _ (.ref 4 :: _)
  refine T_putF dX5_init_25 lfX5_18 rfl rfl ⟨rfl, rfl⟩ rfl (Nat.le_of_ble_eq_true rfl) ?_
  show TK _ _ _ _ _ Sh8 He5 _ _ _ _
  refine T_aload dX5_init_28 rfl ?_
  refine T_const dX5_init_29 ?_
  refine T_newa (bc := 0) (bs := 0) (N := 10) (k := 20) dX5_init_31 (Or.inl ⟨rfl, rfl⟩) rfl (by decide) arrW (Nat.le_of_ble_eq_true rfl) ?_
  show TK _ _ _ _ _ Sh9 He6 _ _ _ (.ref 5 :: _)
  refine T_putF dX5_init_33 lfX5_21 rfl rfl ⟨rfl, rfl⟩ rfl (Nat.le_of_ble_eq_true rfl) ?_
  show TK _ _ _ _ _ Sh10 He6 _ _ _ _
  refine T_aload dX5_init_36 rfl ?_
  refine T_const dX5_init_37 ?_
  refine T_putf dX5_init_39 lfX5_24 rfl rfl rfl (Nat.le_of_ble_eq_true rfl) ⟨rfl, rfl⟩ ?_
  show TK _ _ _ _ _ Sh10 He7 _ _ _ _
  refine T_aload dX5_init_42 rfl ?_
  refine T_const dX5_init_43 ?_
  refine T_putf dX5_init_44 lfX5_28 rfl rfl rfl (Nat.le_of_ble_eq_true rfl) ⟨rfl, rfl⟩ ?_
  show TK _ _ _ _ _ Sh10 He8 _ _ _ _
  refine T_aload dX5_init_47 rfl ?_
  refine T_const dX5_init_48 ?_
  refine T_putf dX5_init_49 lfX5_31 rfl rfl rfl (Nat.le_of_ble_eq_true rfl) ⟨rfl, rfl⟩ ?_
  show TK _ _ _ _ _ Sh10 He9 _ _ _ _
  refine T_const dX5_init_52 ?_
  refine T_istore dX5_init_53 ?_
  show TK _ _ _ _ _ _ _ _ _ [.ref 1, .int (nI 0)] _
  refine T_iload dX5_init_54 rfl ?_
  refine T_const dX5_init_55 ?_
  refine T_icmp_ge dX5_init_57 (fun z => absurd z (by decide)) (fun _ => ?_)
  refine T_aload dX5_init_60 rfl ?_
  refine T_getr (b := 3) dX5_init_61 lfX5_15 rfl rfl (Nat.le_of_ble_eq_true rfl) rfl ?_
  refine T_iload dX5_init_64 rfl ?_
  refine T_const dX5_init_65 ?_
  refine T_iastN (N := 64) (i := 0) dX5_init_66 rfl (Nat.le_of_ble_eq_true rfl) rfl (by decide) (by decide) (by decide) ?_
  show TK _ _ _ _ _ Sh10 He10 _ _ _ _
  refine T_iinc dX5_init_67 rfl ?_
  show TK _ _ _ _ _ _ _ _ _ [.ref 1, .int (nI 1)] _
  refine T_goto dX5_init_70 ?_
  refine T_iload dX5_init_54 rfl ?_
  refine T_const dX5_init_55 ?_
  refine T_icmp_ge dX5_init_57 (fun z => absurd z (by decide)) (fun _ => ?_)
  refine T_aload dX5_init_60 rfl ?_
  refine T_getr (b := 3) dX5_init_61 lfX5_15 rfl rfl (Nat.le_of_ble_eq_true rfl) rfl ?_
  refine T_iload dX5_init_64 rfl ?_
  refine T_const dX5_init_65 ?_
  refine T_iastN (N := 64) (i := 1) dX5_init_66 rfl (Nat.le_of_ble_eq_true rfl) rfl (by decide) (by decide) (by decide) ?_
  show TK _ _ _ _ _ Sh10 He11 _ _ _ _
  refine T_iinc dX5_init_67 rfl ?_
  show TK _ _ _ _ _ _ _ _ _ [.ref 1, .int (nI 2)] _
  refine T_goto dX5_init_70 ?_
  refine T_iload dX5_init_54 rfl ?_
  refine T_const dX5_init_55 ?_
  refine T_icmp_ge dX5_init_57 (fun z => absurd z (by decide)) (fun _ => ?_)
  refine T_aload dX5_init_60 rfl ?_
  refine T_getr (b := 3) dX5_init_61 lfX5_15 rfl rfl (Nat.le_of_ble_eq_true rfl) rfl ?_
  refine T_iload dX5_init_64 rfl ?_
  refine T_const dX5_init_65 ?_
  refine T_iastN (N := 64) (i := 2) dX5_init_66 rfl (Nat.le_of_ble_eq_true rfl) rfl (by decide) (by decide) (by decide) ?_
  show TK _ _ _ _ _ Sh10 He12 _ _ _ _
  refine T_iinc dX5_init_67 rfl ?_
  show TK _ _ _ _ _ _ _ _ _ [.ref 1, .int (nI 3)] _
  refine T_goto dX5_init_70 ?_
  refine T_iload dX5_init_54 rfl ?_
  refine T_const dX5_init_55 ?_
  refine T_icmp_ge dX5_init_57 (fun z => absurd z (by decide)) (fun _ => ?_)
  refine T_aload dX5_init_60 rfl ?_
  refine T_getr (b := 3) dX5_init_61 lfX5_15 rfl rfl (Nat.le_of_ble_eq_true rfl) rfl ?_
  refine T_iload dX5_init_64 rfl ?_
  refine T_const dX5_init_65 ?_
  refine T_iastN (N := 64) (i := 3) dX5_init_66 rfl (Nat.le_of_ble_eq_true rfl) rfl (by decide) (by decide) (by decide) ?_
  show TK _ _ _ _ _ Sh10 He13 _ _ _ _
  refine T_iinc dX5_init_67 rfl ?_
  show TK _ _ _ _ _ _ _ _ _ [.ref 1, .int (nI 4)] _
  refine T_goto dX5_init_70 ?_
  refine T_iload dX5_init_54 rfl ?_
  refine T_const dX5_init_55 ?_
  refine T_icmp_ge dX5_init_57 (fun z => absurd z (by decide)) (fun _ => ?_)
  refine T_aload dX5_init_60 rfl ?_
  refine T_getr (b := 3) dX5_init_61 lfX5_15 rfl rfl (Nat.le_of_ble_eq_true rfl) rfl ?_
  refine T_iload dX5_init_64 rfl ?_
  refine T_const dX5_init_65 ?_
  refine T_iastN (N := 64) (i := 4) dX5_init_66 rfl (Nat.le_of_ble_eq_true rfl) rfl (by decide) (by decide) (by decide) ?_
  show TK _ _ _ _ _ Sh10 He14 _ _ _ _
  refine T_iinc dX5_init_67 rfl ?_
  show TK _ _ _ _ _ _ _ _ _ [.ref 1, .int (nI 5)] _
  refine T_goto dX5_init_70 ?_
  refine T_iload dX5_init_54 rfl ?_
  refine T_const dX5_init_55 ?_
  refine T_icmp_ge dX5_init_57 (fun z => absurd z (by decide)) (fun _ => ?_)
  refine T_aload dX5_init_60 rfl ?_
  refine T_getr (b := 3) dX5_init_61 lfX5_15 rfl rfl (Nat.le_of_ble_eq_true rfl) rfl ?_
  refine T_iload dX5_init_64 rfl ?_
  refine T_const dX5_init_65 ?_
  refine T_iastN (N := 64) (i := 5) dX5_init_66 rfl (Nat.le_of_ble_eq_true rfl) rfl (by decide) (by decide) (by decide) ?_
  show TK _ _ _ _ _ Sh10 He15 _ _ _ _
  refine T_iinc dX5_init_67 rfl ?_
  show TK _ _ _ _ _ _ _ _ _ [.ref 1, .int (nI 6)] _
  refine T_goto dX5_init_70 ?_
  refine T_iload dX5_init_54 rfl ?_
  refine T_const dX5_init_55 ?_
  refine T_icmp_ge dX5_init_57 (fun z => absurd z (by decide)) (fun _ => ?_)
  refine T_aload dX5_init_60 rfl ?_
  refine T_getr (b := 3) dX5_init_61 lfX5_15 rfl rfl (Nat.le_of_ble_eq_true rfl) rfl ?_
  refine T_iload dX5_init_64 rfl ?_
  refine T_const dX5_init_65 ?_
  refine T_iastN (N := 64) (i := 6) dX5_init_66 rfl (Nat.le_of_ble_eq_true rfl) rfl (by decide) (by decide) (by decide) ?_
  show TK _ _ _ _ _ Sh10 He16 _ _ _ _
  refine T_iinc dX5_init_67 rfl ?_
  show TK _ _ _ _ _ _ _ _ _ [.ref 1, .int (nI 7)] _
  refine T_goto dX5_init_70 ?_
  refine T_iload dX5_init_54 rfl ?_
  refine T_const dX5_init_55 ?_
  refine T_icmp_ge dX5_init_57 (fun z => absurd z (by decide)) (fun _ => ?_)
  refine T_aload dX5_init_60 rfl ?_
  refine T_getr (b := 3) dX5_init_61 lfX5_15 rfl rfl (Nat.le_of_ble_eq_true rfl) rfl ?_
  refine T_iload dX5_init_64 rfl ?_
  refine T_const dX5_init_65 ?_
  refine T_iastN (N := 64) (i := 7) dX5_init_66 rfl (Nat.le_of_ble_eq_true rfl) rfl (by decide) (by decide) (by decide) ?_
  show TK _ _ _ _ _ Sh10 He17 _ _ _ _
  refine T_iinc dX5_init_67 rfl ?_
  show TK _ _ _ _ _ _ _ _ _ [.ref 1, .int (nI 8)] _
  refine T_goto dX5_init_70 ?_
  refine T_iload dX5_init_54 rfl ?_
  refine T_const dX5_init_55 ?_
  refine T_icmp_ge dX5_init_57 (fun z => absurd z (by decide)) (fun _ => ?_)
  refine T_aload dX5_init_60 rfl ?_
  refine T_getr (b := 3) dX5_init_61 lfX5_15 rfl rfl (Nat.le_of_ble_eq_true rfl) rfl ?_
  refine T_iload dX5_init_64 rfl ?_
  refine T_const dX5_init_65 ?_
  refine T_iastN (N := 64) (i := 8) dX5_init_66 rfl (Nat.le_of_ble_eq_true rfl) rfl (by decide) (by decide) (by decide) ?_
  show TK _ _ _ _ _ Sh10 He18 _ _ _ _
  refine T_iinc dX5_init_67 rfl ?_
  show TK _ _ _ _ _ _ _ _ _ [.ref 1, .int (nI 9)] _
  refine T_goto dX5_init_70 ?_
  refine T_iload dX5_init_54 rfl ?_
  refine T_const dX5_init_55 ?_
  refine T_icmp_ge dX5_init_57 (fun z => absurd z (by decide)) (fun _ => ?_)
  refine T_aload dX5_init_60 rfl ?_
  refine T_getr (b := 3) dX5_init_61 lfX5_15 rfl rfl (Nat.le_of_ble_eq_true rfl) rfl ?_
  refine T_iload dX5_init_64 rfl ?_
  refine T_const dX5_init_65 ?_
  refine T_iastN (N := 64) (i := 9) dX5_init_66 rfl (Nat.le_of_ble_eq_true rfl) rfl (by decide) (by decide) (by decide) ?_
  show TK _ _ _ _ _ Sh10 He19 _ _ _ _
  refine T_iinc dX5_init_67 rfl ?_
  show TK _ _ _ _ _ _ _ _ _ [.ref 1, .int (nI 10)] _
  refine T_goto dX5_init_70 ?_
  refine T_iload dX5_init_54 rfl ?_
  refine T_const dX5_init_55 ?_
  refine T_icmp_ge dX5_init_57 (fun z => absurd z (by decide)) (fun _ => ?_)
  refine T_aload dX5_init_60 rfl ?_
  refine T_getr (b := 3) dX5_init_61 lfX5_15 rfl rfl (Nat.le_of_ble_eq_true rfl) rfl ?_
  refine T_iload dX5_init_64 rfl ?_
  refine T_const dX5_init_65 ?_
  refine T_iastN (N := 64) (i := 10) dX5_init_66 rfl (Nat.le_of_ble_eq_true rfl) rfl (by decide) (by decide) (by decide) ?_
  show TK _ _ _ _ _ Sh10 He20 _ _ _ _
  refine T_iinc dX5_init_67 rfl ?_
  show TK _ _ _ _ _ _ _ _ _ [.ref 1, .int (nI 11)] _
  refine T_goto dX5_init_70 ?_
  refine T_iload dX5_init_54 rfl ?_
  refine T_const dX5_init_55 ?_
  refine T_icmp_ge dX5_init_57 (fun z => absurd z (by decide)) (fun _ => ?_)
  refine T_aload dX5_init_60 rfl ?_
  refine T_getr (b := 3) dX5_init_61 lfX5_15 rfl rfl (Nat.le_of_ble_eq_true rfl) rfl ?_
  refine T_iload dX5_init_64 rfl ?_
  refine T_const dX5_init_65 ?_
  refine T_iastN (N := 64) (i := 11) dX5_init_66 rfl (Nat.le_of_ble_eq_true rfl) rfl (by decide) (by decide) (by decide) ?_
  show TK _ _ _ _ _ Sh10 He21 _ _ _ _
  refine T_iinc dX5_init_67 rfl ?_
  show TK _ _ _ _ _ _ _ _ _ [.ref 1, .int (nI 12)] _
  refine T_goto dX5_init_70 ?_
  refine T_iload dX5_init_54 rfl ?_
  refine T_const dX5_init_55 ?_
  refine T_icmp_ge dX5_init_57 (fun z => absurd z (by decide)) (fun _ => ?_)
  refine T_aload dX5_init_60 rfl ?_
  refine T_getr (b := 3) dX5_init_61 lfX5_15 rfl rfl (Nat.le_of_ble_eq_true rfl) rfl ?_
  refine T_iload dX5_init_64 rfl ?_
  refine T_const dX5_init_65 ?_
  refine T_iastN (N := 64) (i := 12) dX5_init_66 rfl (Nat.le_of_ble_eq_true rfl) rfl (by decide) (by decide) (by decide) ?_
  show TK _ _ _ _ _ Sh10 He22 _ _ _ _
  refine T_iinc dX5_init_67 rfl ?_
  show TK _ _ _ _ _ _ _ _ _ [.ref 1, .int (nI 13)] _
  refine T_goto dX5_init_70 ?_
  refine T_iload dX5_init_54 rfl ?_
  refine T_const dX5_init_55 ?_
  refine T_icmp_ge dX5_init_57 (fun z => absurd z (by decide)) (fun _ => ?_)
  refine T_aload dX5_init_60 rfl ?_
  refine T_getr (b := 3) dX5_init_61 lfX5_15 rfl rfl (Nat.le_of_ble_eq_true rfl) rfl ?_
  refine T_iload dX5_init_64 rfl ?_
  refine T_const dX5_init_65 ?_
  refine T_iastN (N := 64) (i := 13) dX5_init_66 rfl (Nat.le_of_ble_eq_true rfl) rfl (by decide) (by decide) (by decide) ?_
  show TK _ _ _ _ _ Sh10 He23 _ _ _ _
  refine T_iinc dX5_init_67 rfl ?_
  show TK _ _ _ _ _ _ _ _ _ [.ref 1, .int (nI 14)] _
  refine T_goto dX5_init_70 ?_
  refine T_iload dX5_init_54 rfl ?_
  refine T_const dX5_init_55 ?_
  refine T_icmp_ge dX5_init_57 (fun z => absurd z (by decide)) (fun _ => ?_)
  refine T_aload dX5_init_60 rfl ?_
  refine T_getr (b := 3) dX5_init_61 lfX5_15 rfl rfl (Nat.le_of_ble_eq_true rfl) rfl ?_
  refine T_iload dX5_init_64 rfl ?_
  refine T_const dX5_init_65 ?_
  refine T_iastN (N := 64) (i := 14) dX5_init_66 rfl (Nat.le_of_ble_eq_true rfl) rfl (by decide) (by decide) (by decide) ?_
  show TK _ _ _ _ _ Sh10 He24 _ _ _ _
  refine T_iinc dX5_init_67 rfl ?_
  show TK _ _ _ _ _ _ _ _ _ [.ref 1, .int (nI 15)] _
  refine T_goto dX5_init_70 ?_
  refine T_iload dX5_init_54 rfl ?_
  refine T_const dX5_init_55 ?_
  refine T_icmp_ge dX5_init_57 (fun z => absurd z (by decide)) (fun _ => ?_)
  refine T_aload dX5_init_60 rfl ?_
  refine T_getr (b := 3) dX5_init_61 lfX5_15 rfl rfl (Nat.le_of_ble_eq_true rfl) rfl ?_
  refine T_iload dX5_init_64 rfl ?_
  refine T_const dX5_init_65 ?_
  refine T_iastN (N := 64) (i := 15) dX5_init_66 rfl (Nat.le_of_ble_eq_true rfl) rfl (by decide) (by decide) (by decide) ?_
  show TK _ _ _ _ _ Sh10 He25 _ _ _ _
  refine T_iinc dX5_init_67 rfl ?_
  show TK _ _ _ _ _ _ _ _ _ [.ref 1, .int (nI 16)] _
  refine T_goto dX5_init_70 ?_
  refine T_iload dX5_init_54 rfl ?_
  refine T_const dX5_init_55 ?_
  refine T_icmp_ge dX5_init_57 (fun z => absurd z (by decide)) (fun _ => ?_)
  refine T_aload dX5_init_60 rfl ?_
  refine T_getr (b := 3) dX5_init_61 lfX5_15 rfl rfl (Nat.le_of_ble_eq_true rfl) rfl ?_
  refine T_iload dX5_init_64 rfl ?_
  refine T_const dX5_init_65 ?_
  refine T_iastN (N := 64) (i := 16) dX5_init_66 rfl (Nat.le_of_ble_eq_true rfl) rfl (by decide) (by decide) (by decide) ?_
  show TK _ _ _ _ _ Sh10 He26 _ _ _ _
  refine T_iinc dX5_init_67 rfl ?_
  show TK _ _ _ _ _ _ _ _ _ [.ref 1, .int (nI 17)] _
  refine T_goto dX5_init_70 ?_
  refine T_iload dX5_init_54 rfl ?_
  refine T_const dX5_init_55 ?_
  refine T_icmp_ge dX5_init_57 (fun z => absurd z (by decide)) (fun _ => ?_)
  refine T_aload dX5_init_60 rfl ?_
  refine T_getr (b := 3) dX5_init_61 lfX5_15 rfl rfl (Nat.le_of_ble_eq_true rfl) rfl ?_
  refine T_iload dX5_init_64 rfl ?_
  refine T_const dX5_init_65 ?_
  refine T_iastN (N := 64) (i := 17) dX5_init_66 rfl (Nat.le_of_ble_eq_true rfl) rfl (by decide) (by decide) (by decide) ?_
  show TK _ _ _ _ _ Sh10 He27 _ _ _ _
  refine T_iinc dX5_init_67 rfl ?_
  show TK _ _ _ _ _ _ _ _ _ [.ref 1, .int (nI 18)] _
  refine T_goto dX5_init_70 ?_
  refine T_iload dX5_init_54 rfl ?_
  refine T_const dX5_init_55 ?_
  refine T_icmp_ge dX5_init_57 (fun z => absurd z (by decide)) (fun _ => ?_)
  refine T_aload dX5_init_60 rfl ?_
  refine T_getr (b := 3) dX5_init_61 lfX5_15 rfl rfl (Nat.le_of_ble_eq_true rfl) rfl ?_
  refine T_iload dX5_init_64 rfl ?_
  refine T_const dX5_init_65 ?_
  refine T_iastN (N := 64) (i := 18) dX5_init_66 rfl (Nat.le_of_ble_eq_true rfl) rfl (by decide) (by decide) (by decide) ?_
  show TK _ _ _ _ _ Sh10 He28 _ _ _ _
  refine T_iinc dX5_init_67 rfl ?_
  show TK _ _ _ _ _ _ _ _ _ [.ref 1, .int (nI 19)] _
  refine T_goto dX5_init_70 ?_
  refine T_iload dX5_init_54 rfl ?_
  refine T_const dX5_init_55 ?_
  refine T_icmp_ge dX5_init_57 (fun z => absurd z (by decide)) (fun _ => ?_)
  refine T_aload dX5_init_60 rfl ?_
  refine T_getr (b := 3) dX5_init_61 lfX5_15 rfl rfl (Nat.le_of_ble_eq_true rfl) rfl ?_
  refine T_iload dX5_init_64 rfl ?_
  refine T_const dX5_init_65 ?_
  refine T_iastN (N := 64) (i := 19) dX5_init_66 rfl (Nat.le_of_ble_eq_true rfl) rfl (by decide) (by decide) (by decide) ?_
  show TK _ _ _ _ _ Sh10 He29 _ _ _ _
  refine T_iinc dX5_init_67 rfl ?_
  show TK _ _ _ _ _ _ _ _ _ [.ref 1, .int (nI 20)] _
  refine T_goto dX5_init_70 ?_
  refine T_iload dX5_init_54 rfl ?_
  refine T_const dX5_init_55 ?_
  refine T_icmp_ge dX5_init_57 (fun z => absurd z (by decide)) (fun _ => ?_)
  refine T_aload dX5_init_60 rfl ?_
  refine T_getr (b := 3) dX5_init_61 lfX5_15 rfl rfl (Nat.le_of_ble_eq_true rfl) rfl ?_
  refine T_iload dX5_init_64 rfl ?_
  refine T_const dX5_init_65 ?_
  refine T_iastN (N := 64) (i := 20) dX5_init_66 rfl (Nat.le_of_ble_eq_true rfl) rfl (by decide) (by decide) (by decide) ?_
  show TK _ _ _ _ _ Sh10 He30 _ _ _ _
  refine T_iinc dX5_init_67 rfl ?_
  show TK _ _ _ _ _ _ _ _ _ [.ref 1, .int (nI 21)] _
  refine T_goto dX5_init_70 ?_
  refine T_iload dX5_init_54 rfl ?_
  refine T_const dX5_init_55 ?_
  refine T_icmp_ge dX5_init_57 (fun z => absurd z (by decide)) (fun _ => ?_)
  refine T_aload dX5_init_60 rfl ?_
  refine T_getr (b := 3) dX5_init_61 lfX5_15 rfl rfl (Nat.le_of_ble_eq_true rfl) rfl ?_
  refine T_iload dX5_init_64 rfl ?_
  refine T_const dX5_init_65 ?_
  refine T_iastN (N := 64) (i := 21) dX5_init_66 rfl (Nat.le_of_ble_eq_true rfl) rfl (by decide) (by decide) (by decide) ?_
  show TK _ _ _ _ _ Sh10 He31 _ _ _ _
  refine T_iinc dX5_init_67 rfl ?_
  show TK _ _ _ _ _ _ _ _ _ [.ref 1, .int (nI 22)] _
  refine T_goto dX5_init_70 ?_
  refine T_iload dX5_init_54 rfl ?_
  refine T_const dX5_init_55 ?_
  refine T_icmp_ge dX5_init_57 (fun z => absurd z (by decide)) (fun _ => ?_)
  refine T_aload dX5_init_60 rfl ?_
  refine T_getr (b := 3) dX5_init_61 lfX5_15 rfl rfl (Nat.le_of_ble_eq_true rfl) rfl ?_
  refine T_iload dX5_init_64 rfl ?_
  refine T_const dX5_init_65 ?_
  refine T_iastN (N := 64) (i := 22) dX5_init_66 rfl (Nat.le_of_ble_eq_true rfl) rfl (by decide) (by decide) (by decide) ?_
  show TK _ _ _ _ _ Sh10 He32 _ _ _ _
  refine T_iinc dX5_init_67 rfl ?_
  show TK _ _ _ _ _ _ _ _ _ [.ref 1, .int (nI 23)] _
  refine T_goto dX5_init_70 ?_
  refine T_iload dX5_init_54 rfl ?_
  refine T_const dX5_init_55 ?_
  refine T_icmp_ge dX5_init_57 (fun z => absurd z (by decide)) (fun _ => ?_)
  refine T_aload dX5_init_60 rfl ?_
  refine T_getr (b := 3) dX5_init_61 lfX5_15 rfl rfl (Nat.le_of_ble_eq_true rfl) rfl ?_
  refine T_iload dX5_init_64 rfl ?_
  refine T_const dX5_init_65 ?_
  refine T_iastN (N := 64) (i := 23) dX5_init_66 rfl (Nat.le_of_ble_eq_true rfl) rfl (by decide) (by decide) (by decide) ?_
  show TK _ _ _ _ _ Sh10 He33 _ _ _ _
  refine T_iinc dX5_init_67 rfl ?_
  show TK _ _ _ _ _ _ _ _ _ [.ref 1, .int (nI 24)] _
  refine T_goto dX5_init_70 ?_
  refine T_iload dX5_init_54 rfl ?_
  refine T_const dX5_init_55 ?_
  refine T_icmp_ge dX5_init_57 (fun z => absurd z (by decide)) (fun _ => ?_)
  refine T_aload dX5_init_60 rfl ?_
  refine T_getr (b := 3) dX5_init_61 lfX5_15 rfl rfl (Nat.le_of_ble_eq_true rfl) rfl ?_
  refine T_iload dX5_init_64 rfl ?_
  refine T_const dX5_init_65 ?_
  refine T_iastN (N := 64) (i := 24) dX5_init_66 rfl (Nat.le_of_ble_eq_true rfl) rfl (by decide) (by decide) (by decide) ?_
  show TK _ _ _ _ _ Sh10 He34 _ _ _ _
  refine T_iinc dX5_init_67 rfl ?_
  show TK _ _ _ _ _ _ _ _ _ [.ref 1, .int (nI 25)] _
  refine T_goto dX5_init_70 ?_
  refine T_iload dX5_init_54 rfl ?_
  refine T_const dX5_init_55 ?_
  refine T_icmp_ge dX5_init_57 (fun z => absurd z (by decide)) (fun _ => ?_)
  refine T_aload dX5_init_60 rfl ?_
  refine T_getr (b := 3) dX5_init_61 lfX5_15 rfl rfl (Nat.le_of_ble_eq_true rfl) rfl ?_
  refine T_iload dX5_init_64 rfl ?_
  refine T_const dX5_init_65 ?_
  refine T_iastN (N := 64) (i := 25) dX5_init_66 rfl (Nat.le_of_ble_eq_true rfl) rfl (by decide) (by decide) (by decide) ?_
  show TK _ _ _ _ _ Sh10 He35 _ _ _ _
  refine T_iinc dX5_init_67 rfl ?_
  show TK _ _ _ _ _ _ _ _ _ [.ref 1, .int (nI 26)] _
  refine T_goto dX5_init_70 ?_
  refine T_iload dX5_init_54 rfl ?_
  refine T_const dX5_init_55 ?_
  refine T_icmp_ge dX5_init_57 (fun z => absurd z (by decide)) (fun _ => ?_)
  refine T_aload dX5_init_60 rfl ?_
  refine T_getr (b := 3) dX5_init_61 lfX5_15 rfl rfl (Nat.le_of_ble_eq_true rfl) rfl ?_
  refine T_iload dX5_init_64 rfl ?_
  refine T_const dX5_init_65 ?_
  refine T_iastN (N := 64) (i := 26) dX5_init_66 rfl (Nat.le_of_ble_eq_true rfl) rfl (by decide) (by decide) (by decide) ?_
  show TK _ _ _ _ _ Sh10 He36 _ _ _ _
  refine T_iinc dX5_init_67 rfl ?_
  show TK _ _ _ _ _ _ _ _ _ [.ref 1, .int (nI 27)] _
  refine T_goto dX5_init_70 ?_
  refine T_iload dX5_init_54 rfl ?_
  refine T_const dX5_init_55 ?_
  refine T_icmp_ge dX5_init_57 (fun z => absurd z (by decide)) (fun _ => ?_)
  refine T_aload dX5_init_60 rfl ?_
  refine T_getr (b := 3) dX5_init_61 lfX5_15 rfl rfl (Nat.le_of_ble_eq_true rfl) rfl ?_
  refine T_iload dX5_init_64 rfl ?_
  refine T_const dX5_init_65 ?_
  refine T_iastN (N := 64) (i := 27) dX5_init_66 rfl (Nat.le_of_ble_eq_true rfl) rfl (by decide) (by decide) (by decide) ?_
  show TK _ _ _ _ _ Sh10 He37 _ _ _ _
  refine T_iinc dX5_init_67 rfl ?_
  show TK _ _ _ _ _ _ _ _ _ [.ref 1, .int (nI 28)] _
  refine T_goto dX5_init_70 ?_
  refine T_iload dX5_init_54 rfl ?_
  refine T_const dX5_init_55 ?_
  refine T_icmp_ge dX5_init_57 (fun z => absurd z (by decide)) (fun _ => ?_)
  refine T_aload dX5_init_60 rfl ?_
  refine T_getr (b := 3) dX5_init_61 lfX5_15 rfl rfl (Nat.le_of_ble_eq_true rfl) rfl ?_
  refine T_iload dX5_init_64 rfl ?_
  refine T_const dX5_init_65 ?_
  refine T_iastN (N := 64) (i := 28) dX5_init_66 rfl (Nat.le_of_ble_eq_true rfl) rfl (by decide) (by decide) (by decide) ?_
  show TK _ _ _ _ _ Sh10 He38 _ _ _ _
  refine T_iinc dX5_init_67 rfl ?_
  show TK _ _ _ _ _ _ _ _ _ [.ref 1, .int (nI 29)] _
  refine T_goto dX5_init_70 ?_
  refine T_iload dX5_init_54 rfl ?_
  refine T_const dX5_init_55 ?_
  refine T_icmp_ge dX5_init_57 (fun z => absurd z (by decide)) (fun _ => ?_)
  refine T_aload dX5_init_60 rfl ?_
  refine T_getr (b := 3) dX5_init_61 lfX5_15 rfl rfl (Nat.le_of_ble_eq_true rfl) rfl ?_
  refine T_iload dX5_init_64 rfl ?_
  refine T_const dX5_init_65 ?_
  refine T_iastN (N := 64) (i := 29) dX5_init_66 rfl (Nat.le_of_ble_eq_true rfl) rfl (by decide) (by decide) (by decide) ?_
  show TK _ _ _ _ _ Sh10 He39 _ _ _ _
  refine T_iinc dX5_init_67 rfl ?_
  show TK _ _ _ _ _ _ _ _ _ [.ref 1, .int (nI 30)] _
  refine T_goto dX5_init_70 ?_
  refine T_iload dX5_init_54 rfl ?_
  refine T_const dX5_init_55 ?_
  refine T_icmp_ge dX5_init_57 (fun z => absurd z (by decide)) (fun _ => ?_)
  refine T_aload dX5_init_60 rfl ?_
  refine T_getr (b := 3) dX5_init_61 lfX5_15 rfl rfl (Nat.le_of_ble_eq_true rfl) rfl ?_
  refine T_iload dX5_init_64 rfl ?_
  refine T_const dX5_init_65 ?_
  refine T_iastN (N := 64) (i := 30) dX5_init_66 rfl (Nat.le_of_ble_eq_true rfl) rfl (by decide) (by decide) (by decide) ?_
  show TK _ _ _ _ _ Sh10 He40 _ _ _ _
  refine T_iinc dX5_init_67 rfl ?_
  show TK _ _ _ _ _ _ _ _ _ [.ref 1, .int (nI 31)] _
  refine T_goto dX5_init_70 ?_
  refine T_iload dX5_init_54 rfl ?_
  refine T_const dX5_init_55 ?_
  refine T_icmp_ge dX5_init_57 (fun z => absurd z (by decide)) (fun _ => ?_)
  refine T_aload dX5_init_60 rfl ?_
  refine T_getr (b := 3) dX5_init_61 lfX5_15 rfl rfl (Nat.le_of_ble_eq_true rfl) rfl ?_
  refine T_iload dX5_init_64 rfl ?_
  refine T_const dX5_init_65 ?_
  refine T_iastN (N := 64) (i := 31) dX5_init_66 rfl (Nat.le_of_ble_eq_true rfl) rfl (by decide) (by decide) (by decide) ?_
  show TK _ _ _ _ _ Sh10 He41 _ _ _ _
  refine T_iinc dX5_init_67 rfl ?_
  show TK _ _ _ _ _ _ _ _ _ [.ref 1, .int (nI 32)] _
  refine T_goto dX5_init_70 ?_
  refine T_iload dX5_init_54 rfl ?_
  refine T_const dX5_init_55 ?_
  refine T_icmp_ge dX5_init_57 (fun z => absurd z (by decide)) (fun _ => ?_)
  refine T_aload dX5_init_60 rfl ?_
  refine T_getr (b := 3) dX5_init_61 lfX5_15 rfl rfl (Nat.le_of_ble_eq_true rfl) rfl ?_
  refine T_iload dX5_init_64 rfl ?_
  refine T_const dX5_init_65 ?_
  refine T_iastN (N := 64) (i := 32) dX5_init_66 rfl (Nat.le_of_ble_eq_true rfl) rfl (by decide) (by decide) (by decide) ?_
  show TK _ _ _ _ _ Sh10 He42 _ _ _ _
  refine T_iinc dX5_init_67 rfl ?_
  show TK _ _ _ _ _ _ _ _ _ [.ref 1, .int (nI 33)] _
  refine T_goto dX5_init_70 ?_
  refine T_iload dX5_init_54 rfl ?_
  refine T_const dX5_init_55 ?_
  refine T_icmp_ge dX5_init_57 (fun z => absurd z (by decide)) (fun _ => ?_)
  refine T_aload dX5_init_60 rfl ?_
  refine T_getr (b := 3) dX5_init_61 lfX5_15 rfl rfl (Nat.le_of_ble_eq_true rfl) rfl ?_
  refine T_iload dX5_init_64 rfl ?_
  refine T_const dX5_init_65 ?_
  refine T_iastN (N := 64) (i := 33) dX5_init_66 rfl (Nat.le_of_ble_eq_true rfl) rfl (by decide) (by decide) (by decide) ?_
  show TK _ _ _ _ _ Sh10 He43 _ _ _ _
  refine T_iinc dX5_init_67 rfl ?_
  show TK _ _ _ _ _ _ _ _ _ [.ref 1, .int (nI 34)] _
  refine T_goto dX5_init_70 ?_
  refine T_iload dX5_init_54 rfl ?_
  refine T_const dX5_init_55 ?_
  refine T_icmp_ge dX5_init_57 (fun z => absurd z (by decide)) (fun _ => ?_)
  refine T_aload dX5_init_60 rfl ?_
  refine T_getr (b := 3) dX5_init_61 lfX5_15 rfl rfl (Nat.le_of_ble_eq_true rfl) rfl ?_
  refine T_iload dX5_init_64 rfl ?_
  refine T_const dX5_init_65 ?_
  refine T_iastN (N := 64) (i := 34) dX5_init_66 rfl (Nat.le_of_ble_eq_true rfl) rfl (by decide) (by decide) (by decide) ?_
  show TK _ _ _ _ _ Sh10 He44 _ _ _ _
  refine T_iinc dX5_init_67 rfl ?_
  show TK _ _ _ _ _ _ _ _ _ [.ref 1, .int (nI 35)] _
  refine T_goto dX5_init_70 ?_
  refine T_iload dX5_init_54 rfl ?_
  refine T_const dX5_init_55 ?_
  refine T_icmp_ge dX5_init_57 (fun z => absurd z (by decide)) (fun _ => ?_)
  refine T_aload dX5_init_60 rfl ?_
  refine T_getr (b := 3) dX5_init_61 lfX5_15 rfl rfl (Nat.le_of_ble_eq_true rfl) rfl ?_
  refine T_iload dX5_init_64 rfl ?_
  refine T_const dX5_init_65 ?_
  refine T_iastN (N := 64) (i := 35) dX5_init_66 rfl (Nat.le_of_ble_eq_true rfl) rfl (by decide) (by decide) (by decide) ?_
  show TK _ _ _ _ _ Sh10 He45 _ _ _ _
  refine T_iinc dX5_init_67 rfl ?_
  show TK _ _ _ _ _ _ _ _ _ [.ref 1, .int (nI 36)] _
  refine T_goto dX5_init_70 ?_
  refine T_iload dX5_init_54 rfl ?_
  refine T_const dX5_init_55 ?_
  refine T_icmp_ge dX5_init_57 (fun z => absurd z (by decide)) (fun _ => ?_)
  refine T_aload dX5_init_60 rfl ?_
  refine T_getr (b := 3) dX5_init_61 lfX5_15 rfl rfl (Nat.le_of_ble_eq_true rfl) rfl ?_
  refine T_iload dX5_init_64 rfl ?_
  refine T_const dX5_init_65 ?_
  refine T_iastN (N := 64) (i := 36) dX5_init_66 rfl (Nat.le_of_ble_eq_true rfl) rfl (by decide) (by decide) (by decide) ?_
  show TK _ _ _ _ _ Sh10 He46 _ _ _ _
  refine T_iinc dX5_init_67 rfl ?_
  show TK _ _ _ _ _ _ _ _ _ [.ref 1, .int (nI 37)] _
  refine T_goto dX5_init_70 ?_
  refine T_iload dX5_init_54 rfl ?_
  refine T_const dX5_init_55 ?_
  refine T_icmp_ge dX5_init_57 (fun z => absurd z (by decide)) (fun _ => ?_)
  refine T_aload dX5_init_60 rfl ?_
  refine T_getr (b := 3) dX5_init_61 lfX5_15 rfl rfl (Nat.le_of_ble_eq_true rfl) rfl ?_
  refine T_iload dX5_init_64 rfl ?_
  refine T_const dX5_init_65 ?_
  refine T_iastN (N := 64) (i := 37) dX5_init_66 rfl (Nat.le_of_ble_eq_true rfl) rfl (by decide) (by decide) (by decide) ?_
  show TK _ _ _ _ _ Sh10 He47 _ _ _ _
  refine T_iinc dX5_init_67 rfl ?_
  show TK _ _ _ _ _ _ _ _ _ [.ref 1, .int (nI 38)] _
  refine T_goto dX5_init_70 ?_
  refine T_iload dX5_init_54 rfl ?_
  refine T_const dX5_init_55 ?_
  refine T_icmp_ge dX5_init_57 (fun z => absurd z (by decide)) (fun _ => ?_)
  refine T_aload dX5_init_60 rfl ?_
  refine T_getr (b := 3) dX5_init_61 lfX5_15 rfl rfl (Nat.le_of_ble_eq_true rfl) rfl ?_
  refine T_iload dX5_init_64 rfl ?_
  refine T_const dX5_init_65 ?_
  refine T_iastN (N := 64) (i := 38) dX5_init_66 rfl (Nat.le_of_ble_eq_true rfl) rfl (by decide) (by decide) (by decide) ?_
  show TK _ _ _ _ _ Sh10 He48 _ _ _ _
  refine T_iinc dX5_init_67 rfl ?_
  show TK _ _ _ _ _ _ _ _ _ [.ref 1, .int (nI 39)] _
  refine T_goto dX5_init_70 ?_
  refine T_iload dX5_init_54 rfl ?_
  refine T_const dX5_init_55 ?_
  refine T_icmp_ge dX5_init_57 (fun z => absurd z (by decide)) (fun _ => ?_)
  refine T_aload dX5_init_60 rfl ?_
  refine T_getr (b := 3) dX5_init_61 lfX5_15 rfl rfl (Nat.le_of_ble_eq_true rfl) rfl ?_
  refine T_iload dX5_init_64 rfl ?_
  refine T_const dX5_init_65 ?_
  refine T_iastN (N := 64) (i := 39) dX5_init_66 rfl (Nat.le_of_ble_eq_true rfl) rfl (by decide) (by decide) (by decide) ?_
  show TK _ _ _ _ _ Sh10 He49 _ _ _ _
  refine T_iinc dX5_init_67 rfl ?_
  show TK _ _ _ _ _ _ _ _ _ [.ref 1, .int (nI 40)] _
  refine T_goto dX5_init_70 ?_
  refine T_iload dX5_init_54 rfl ?_
  refine T_const dX5_init_55 ?_
  refine T_icmp_ge dX5_init_57 (fun z => absurd z (by decide)) (fun _ => ?_)
  refine T_aload dX5_init_60 rfl ?_
  refine T_getr (b := 3) dX5_init_61 lfX5_15 rfl rfl (Nat.le_of_ble_eq_true rfl) rfl ?_
  refine T_iload dX5_init_64 rfl ?_
  refine T_const dX5_init_65 ?_
  refine T_iastN (N := 64) (i := 40) dX5_init_66 rfl (Nat.le_of_ble_eq_true rfl) rfl (by decide) (by decide) (by decide) ?_
  show TK _ _ _ _ _ Sh10 He50 _ _ _ _
  refine T_iinc dX5_init_67 rfl ?_
  show TK _ _ _ _ _ _ _ _ _ [.ref 1, .int (nI 41)] _
  refine T_goto dX5_init_70 ?_
  refine T_iload dX5_init_54 rfl ?_
  refine T_const dX5_init_55 ?_
  refine T_icmp_ge dX5_init_57 (fun z => absurd z (by decide)) (fun _ => ?_)
  refine T_aload dX5_init_60 rfl ?_
  refine T_getr (b := 3) dX5_init_61 lfX5_15 rfl rfl (Nat.le_of_ble_eq_true rfl) rfl ?_
  refine T_iload dX5_init_64 rfl ?_
  refine T_const dX5_init_65 ?_
  refine T_iastN (N := 64) (i := 41) dX5_init_66 rfl (Nat.le_of_ble_eq_true rfl) rfl (by decide) (by decide) (by decide) ?_
  show TK _ _ _ _ _ Sh10 He51 _ _ _ _
  refine T_iinc dX5_init_67 rfl ?_
  show TK _ _ _ _ _ _ _ _ _ [.ref 1, .int (nI 42)] _
  refine T_goto dX5_init_70 ?_
  refine T_iload dX5_init_54 rfl ?_
  refine T_const dX5_init_55 ?_
  refine T_icmp_ge dX5_init_57 (fun z => absurd z (by decide)) (fun _ => ?_)
  refine T_aload dX5_init_60 rfl ?_
  refine T_getr (b := 3) dX5_init_61 lfX5_15 rfl rfl (Nat.le_of_ble_eq_true rfl) rfl ?_
  refine T_iload dX5_init_64 rfl ?_
  refine T_const dX5_init_65 ?_
  refine T_iastN (N := 64) (i := 42) dX5_init_66 rfl (Nat.le_of_ble_eq_true rfl) rfl (by decide) (by decide) (by decide) ?_
  show TK _ _ _ _ _ Sh10 He52 _ _ _ _
  refine T_iinc dX5_init_67 rfl ?_
  show TK _ _ _ _ _ _ _ _ _ [.ref 1, .int (nI 43)] _
  refine T_goto dX5_init_70 ?_
  refine T_iload dX5_init_54 rfl ?_
  refine T_const dX5_init_55 ?_
  refine T_icmp_ge dX5_init_57 (fun z => absurd z (by decide)) (fun _ => ?_)
  refine T_aload dX5_init_60 rfl ?_
  refine T_getr (b := 3) dX5_init_61 lfX5_15 rfl rfl (Nat.le_of_ble_eq_true rfl) rfl ?_
  refine T_iload dX5_init_64 rfl ?_
  refine T_const dX5_init_65 ?_
  refine T_iastN (N := 64) (i := 43) dX5_init_66 rfl (Nat.le_of_ble_eq_true rfl) rfl (by decide) (by decide) (by decide) ?_
  show TK _ _ _ _ _ Sh10 He53 _ _ _ _
  refine T_iinc dX5_init_67 rfl ?_
  show TK _ _ _ _ _ _ _ _ _ [.ref 1, .int (nI 44)] _
  refine T_goto dX5_init_70 ?_
  refine T_iload dX5_init_54 rfl ?_
  refine T_const dX5_init_55 ?_
  refine T_icmp_ge dX5_init_57 (fun z => absurd z (by decide)) (fun _ => ?_)
  refine T_aload dX5_init_60 rfl ?_
  refine T_getr (b := 3) dX5_init_61 lfX5_15 rfl rfl (Nat.le_of_ble_eq_true rfl) rfl ?_
  refine T_iload dX5_init_64 rfl ?_
  refine T_const dX5_init_65 ?_
  refine T_iastN (N := 64) (i := 44) dX5_init_66 rfl (Nat.le_of_ble_eq_true rfl) rfl (by decide) (by decide) (by decide) ?_
  show TK _ _ _ _ _ Sh10 He54 _ _ _ _
  refine T_iinc dX5_init_67 rfl ?_
  show TK _ _ _ _ _ _ _ _ _ [.ref 1, .int (nI 45)] _
  refine T_goto dX5_init_70 ?_
  refine T_iload dX5_init_54 rfl ?_
  refine T_const dX5_init_55 ?_
  refine T_icmp_ge dX5_init_57 (fun z => absurd z (by decide)) (fun _ => ?_)
  refine T_aload dX5_init_60 rfl ?_
  refine T_getr (b := 3) dX5_init_61 lfX5_15 rfl rfl (Nat.le_of_ble_eq_true rfl) rfl ?_
  refine T_iload dX5_init_64 rfl ?_
  refine T_const dX5_init_65 ?_
  refine T_iastN (N := 64) (i := 45) dX5_init_66 rfl (Nat.le_of_ble_eq_true rfl) rfl (by decide) (by decide) (by decide) ?_
  show TK _ _ _ _ _ Sh10 He55 _ _ _ _
  refine T_iinc dX5_init_67 rfl ?_
  show TK _ _ _ _ _ _ _ _ _ [.ref 1, .int (nI 46)] _
  refine T_goto dX5_init_70 ?_
  refine T_iload dX5_init_54 rfl ?_
  refine T_const dX5_init_55 ?_
  refine T_icmp_ge dX5_init_57 (fun z => absurd z (by decide)) (fun _ => ?_)
  refine T_aload dX5_init_60 rfl ?_
  refine T_getr (b := 3) dX5_init_61 lfX5_15 rfl rfl (Nat.le_of_ble_eq_true rfl) rfl ?_
  refine T_iload dX5_init_64 rfl ?_
  refine T_const dX5_init_65 ?_
  refine T_iastN (N := 64) (i := 46) dX5_init_66 rfl (Nat.le_of_ble_eq_true rfl) rfl (by decide) (by decide) (by decide) ?_
  show TK _ _ _ _ _ Sh10 He56 _ _ _ _
  refine T_iinc dX5_init_67 rfl ?_
  show TK _ _ _ _ _ _ _ _ _ [.ref 1, .int (nI 47)] _
  refine T_goto dX5_init_70 ?_
  refine T_iload dX5_init_54 rfl ?_
  refine T_const dX5_init_55 ?_
  refine T_icmp_ge dX5_init_57 (fun z => absurd z (by decide)) (fun _ => ?_)
  refine T_aload dX5_init_60 rfl ?_
  refine T_getr (b := 3) dX5_init_61 lfX5_15 rfl rfl (Nat.le_of_ble_eq_true rfl) rfl ?_
  refine T_iload dX5_init_64 rfl ?_
  refine T_const dX5_init_65 ?_
  refine T_iastN (N := 64) (i := 47) dX5_init_66 rfl (Nat.le_of_ble_eq_true rfl) rfl (by decide) (by decide) (by decide) ?_
  show TK _ _ _ _ _ Sh10 He57 _ _ _ _
  refine T_iinc dX5_init_67 rfl ?_
  show TK _ _ _ _ _ _ _ _ _ [.ref 1, .int (nI 48)] _
  refine T_goto dX5_init_70 ?_
  refine T_iload dX5_init_54 rfl ?_
  refine T_const dX5_init_55 ?_
  refine T_icmp_ge dX5_init_57 (fun z => absurd z (by decide)) (fun _ => ?_)
  refine T_aload dX5_init_60 rfl ?_
  refine T_getr (b := 3) dX5_init_61 lfX5_15 rfl rfl (Nat.le_of_ble_eq_true rfl) rfl ?_
  refine T_iload dX5_init_64 rfl ?_
  refine T_const dX5_init_65 ?_
  refine T_iastN (N := 64) (i := 48) dX5_init_66 rfl (Nat.le_of_ble_eq_true rfl) rfl (by decide) (by decide) (by decide) ?_
  show TK _ _ _ _ _ Sh10 He58 _ _ _ _
  refine T_iinc dX5_init_67 rfl ?_
  show TK _ _ _ _ _ _ _ _ _ [.ref 1, .int (nI 49)] _
  refine T_goto dX5_init_70 ?_
  refine T_iload dX5_init_54 rfl ?_
  refine T_const dX5_init_55 ?_
  refine T_icmp_ge dX5_init_57 (fun z => absurd z (by decide)) (fun _ => ?_)
  refine T_aload dX5_init_60 rfl ?_
  refine T_getr (b := 3) dX5_init_61 lfX5_15 rfl rfl (Nat.le_of_ble_eq_true rfl) rfl ?_
  refine T_iload dX5_init_64 rfl ?_
  refine T_const dX5_init_65 ?_
  refine T_iastN (N := 64) (i := 49) dX5_init_66 rfl (Nat.le_of_ble_eq_true rfl) rfl (by decide) (by decide) (by decide) ?_
  show TK _ _ _ _ _ Sh10 He59 _ _ _ _
  refine T_iinc dX5_init_67 rfl ?_
  show TK _ _ _ _ _ _ _ _ _ [.ref 1, .int (nI 50)] _
  refine T_goto dX5_init_70 ?_
  refine T_iload dX5_init_54 rfl ?_
  refine T_const dX5_init_55 ?_
  refine T_icmp_ge dX5_init_57 (fun z => absurd z (by decide)) (fun _ => ?_)
  refine T_aload dX5_init_60 rfl ?_
  refine T_getr (b := 3) dX5_init_61 lfX5_15 rfl rfl (Nat.le_of_ble_eq_true rfl) rfl ?_
  refine T_iload dX5_init_64 rfl ?_
  refine T_const dX5_init_65 ?_
  refine T_iastN (N := 64) (i := 50) dX5_init_66 rfl (Nat.le_of_ble_eq_true rfl) rfl (by decide) (by decide) (by decide) ?_
  show TK _ _ _ _ _ Sh10 He60 _ _ _ _
  refine T_iinc dX5_init_67 rfl ?_
  show TK _ _ _ _ _ _ _ _ _ [.ref 1, .int (nI 51)] _
  refine T_goto dX5_init_70 ?_
  refine T_iload dX5_init_54 rfl ?_
  refine T_const dX5_init_55 ?_
  refine T_icmp_ge dX5_init_57 (fun z => absurd z (by decide)) (fun _ => ?_)
  refine T_aload dX5_init_60 rfl ?_
  refine T_getr (b := 3) dX5_init_61 lfX5_15 rfl rfl (Nat.le_of_ble_eq_true rfl) rfl ?_
  refine T_iload dX5_init_64 rfl ?_
  refine T_const dX5_init_65 ?_
  refine T_iastN (N := 64) (i := 51) dX5_init_66 rfl (Nat.le_of_ble_eq_true rfl) rfl (by decide) (by decide) (by decide) ?_
  show TK _ _ _ _ _ Sh10 He61 _ _ _ _
  refine T_iinc dX5_init_67 rfl ?_
  show TK _ _ _ _ _ _ _ _ _ [.ref 1, .int (nI 52)] _
  refine T_goto dX5_init_70 ?_
  refine T_iload dX5_init_54 rfl ?_
  refine T_const dX5_init_55 ?_
  refine T_icmp_ge dX5_init_57 (fun z => absurd z (by decide)) (fun _ => ?_)
  refine T_aload dX5_init_60 rfl ?_
  refine T_getr (b := 3) dX5_init_61 lfX5_15 rfl rfl (Nat.le_of_ble_eq_true rfl) rfl ?_
  refine T_iload dX5_init_64 rfl ?_
  refine T_const dX5_init_65 ?_
  refine T_iastN (N := 64) (i := 52) dX5_init_66 rfl (Nat.le_of_ble_eq_true rfl) rfl (by decide) (by decide) (by decide) ?_
  show TK _ _ _ _ _ Sh10 He62 _ _ _ _
  refine T_iinc dX5_init_67 rfl ?_
  show TK _ _ _ _ _ _ _ _ _ [.ref 1, .int (nI 53)] _
  refine T_goto dX5_init_70 ?_
  refine T_iload dX5_init_54 rfl ?_
  refine T_const dX5_init_55 ?_
  refine T_icmp_ge dX5_init_57 (fun z => absurd z (by decide)) (fun _ => ?_)
  refine T_aload dX5_init_60 rfl ?_
  refine T_getr (b := 3) dX5_init_61 lfX5_15 rfl rfl (Nat.le_of_ble_eq_true rfl) rfl ?_
  refine T_iload dX5_init_64 rfl ?_
  refine T_const dX5_init_65 ?_
  refine T_iastN (N := 64) (i := 53) dX5_init_66 rfl (Nat.le_of_ble_eq_true rfl) rfl (by decide) (by decide) (by decide) ?_
  show TK _ _ _ _ _ Sh10 He63 _ _ _ _
  refine T_iinc dX5_init_67 rfl ?_
  show TK _ _ _ _ _ _ _ _ _ [.ref 1, .int (nI 54)] _
  refine T_goto dX5_init_70 ?_
  refine T_iload dX5_init_54 rfl ?_
  refine T_const dX5_init_55 ?_
  refine T_icmp_ge dX5_init_57 (fun z => absurd z (by decide)) (fun _ => ?_)
  refine T_aload dX5_init_60 rfl ?_
  refine T_getr (b := 3) dX5_init_61 lfX5_15 rfl rfl (Nat.le_of_ble_eq_true rfl) rfl ?_
  refine T_iload dX5_init_64 rfl ?_
  refine T_const dX5_init_65 ?_
  refine T_iastN (N := 64) (i := 54) dX5_init_66 rfl (Nat.le_of_ble_eq_true rfl) rfl (by decide) (by decide) (by decide) ?_
  show TK _ _ _ _ _ Sh10 He64 _ _ _ _
  refine T_iinc dX5_init_67 rfl ?_
  show TK _ _ _ _ _ _ _ _ _ [.ref 1, .int (nI 55)] _
  refine T_goto dX5_init_70 ?_
  refine T_iload dX5_init_54 rfl ?_
  refine T_const dX5_init_55 ?_
  refine T_icmp_ge dX5_init_57 (fun z => absurd z (by decide)) (fun _ => ?_)
  refine T_aload dX5_init_60 rfl ?_
  refine T_getr (b := 3) dX5_init_61 lfX5_15 rfl rfl (Nat.le_of_ble_eq_true rfl) rfl ?_
  refine T_iload dX5_init_64 rfl ?_
  refine T_const dX5_init_65 ?_
  refine T_iastN (N := 64) (i := 55) dX5_init_66 rfl (Nat.le_of_ble_eq_true rfl) rfl (by decide) (by decide) (by decide) ?_
  show TK _ _ _ _ _ Sh10 He65 _ _ _ _
  refine T_iinc dX5_init_67 rfl ?_
  show TK _ _ _ _ _ _ _ _ _ [.ref 1, .int (nI 56)] _
  refine T_goto dX5_init_70 ?_
  refine T_iload dX5_init_54 rfl ?_
  refine T_const dX5_init_55 ?_
  refine T_icmp_ge dX5_init_57 (fun z => absurd z (by decide)) (fun _ => ?_)
  refine T_aload dX5_init_60 rfl ?_
  refine T_getr (b := 3) dX5_init_61 lfX5_15 rfl rfl (Nat.le_of_ble_eq_true rfl) rfl ?_
  refine T_iload dX5_init_64 rfl ?_
  refine T_const dX5_init_65 ?_
  refine T_iastN (N := 64) (i := 56) dX5_init_66 rfl (Nat.le_of_ble_eq_true rfl) rfl (by decide) (by decide) (by decide) ?_
  show TK _ _ _ _ _ Sh10 He66 _ _ _ _
  refine T_iinc dX5_init_67 rfl ?_
  show TK _ _ _ _ _ _ _ _ _ [.ref 1, .int (nI 57)] _
  refine T_goto dX5_init_70 ?_
  refine T_iload dX5_init_54 rfl ?_
  refine T_const dX5_init_55 ?_
  refine T_icmp_ge dX5_init_57 (fun z => absurd z (by decide)) (fun _ => ?_)
  refine T_aload dX5_init_60 rfl ?_
  refine T_getr (b := 3) dX5_init_61 lfX5_15 rfl rfl (Nat.le_of_ble_eq_true rfl) rfl ?_
  refine T_iload dX5_init_64 rfl ?_
  refine T_const dX5_init_65 ?_
  refine T_iastN (N := 64) (i := 57) dX5_init_66 rfl (Nat.le_of_ble_eq_true rfl) rfl (by decide) (by decide) (by decide) ?_
  show TK _ _ _ _ _ Sh10 He67 _ _ _ _
  refine T_iinc dX5_init_67 rfl ?_
  show TK _ _ _ _ _ _ _ _ _ [.ref 1, .int (nI 58)] _
  refine T_goto dX5_init_70 ?_
  refine T_iload dX5_init_54 rfl ?_
  refine T_const dX5_init_55 ?_
  refine T_icmp_ge dX5_init_57 (fun z => absurd z (by decide)) (fun _ => ?_)
  refine T_aload dX5_init_60 rfl ?_
  refine T_getr (b := 3) dX5_init_61 lfX5_15 rfl rfl (Nat.le_of_ble_eq_true rfl) rfl ?_
  refine T_iload dX5_init_64 rfl ?_
  refine T_const dX5_init_65 ?_
  refine T_iastN (N := 64) (i := 58) dX5_init_66 rfl (Nat.le_of_ble_eq_true rfl) rfl (by decide) (by decide) (by decide) ?_
  show TK _ _ _ _ _ Sh10 He68 _ _ _ _
  refine T_iinc dX5_init_67 rfl ?_
  show TK _ _ _ _ _ _ _ _ _ [.ref 1, .int (nI 59)] _
  refine T_goto dX5_init_70 ?_
  refine T_iload dX5_init_54 rfl ?_
  refine T_const dX5_init_55 ?_
  refine T_icmp_ge dX5_init_57 (fun z => absurd z (by decide)) (fun _ => ?_)
  refine T_aload dX5_init_60 rfl ?_
  refine T_getr (b := 3) dX5_init_61 lfX5_15 rfl rfl (Nat.le_of_ble_eq_true rfl) rfl ?_
  refine T_iload dX5_init_64 rfl ?_
  refine T_const dX5_init_65 ?_
  refine T_iastN (N := 64) (i := 59) dX5_init_66 rfl (Nat.le_of_ble_eq_true rfl) rfl (by decide) (by decide) (by decide) ?_
  show TK _ _ _ _ _ Sh10 He69 _ _ _ _
  refine T_iinc dX5_init_67 rfl ?_
  show TK _ _ _ _ _ _ _ _ _ [.ref 1, .int (nI 60)] _
  refine T_goto dX5_init_70 ?_
  refine T_iload dX5_init_54 rfl ?_
  refine T_const dX5_init_55 ?_
  refine T_icmp_ge dX5_init_57 (fun z => absurd z (by decide)) (fun _ => ?_)
  refine T_aload dX5_init_60 rfl ?_
  refine T_getr (b := 3) dX5_init_61 lfX5_15 rfl rfl (Nat.le_of_ble_eq_true rfl) rfl ?_
  refine T_iload dX5_init_64 rfl ?_
  refine T_const dX5_init_65 ?_
  refine T_iastN (N := 64) (i := 60) dX5_init_66 rfl (Nat.le_of_ble_eq_true rfl) rfl (by decide) (by decide) (by decide) ?_
  show TK _ _ _ _ _ Sh10 He70 _ _ _ _
  refine T_iinc dX5_init_67 rfl ?_
  show TK _ _ _ _ _ _ _ _ _ [.ref 1, .int (nI 61)] _
  refine T_goto dX5_init_70 ?_
  refine T_iload dX5_init_54 rfl ?_
  refine T_const dX5_init_55 ?_
  refine T_icmp_ge dX5_init_57 (fun z => absurd z (by decide)) (fun _ => ?_)
  refine T_aload dX5_init_60 rfl ?_
  refine T_getr (b := 3) dX5_init_61 lfX5_15 rfl rfl (Nat.le_of_ble_eq_true rfl) rfl ?_
  refine T_iload dX5_init_64 rfl ?_
  refine T_const dX5_init_65 ?_
  refine T_iastN (N := 64) (i := 61) dX5_init_66 rfl (Nat.le_of_ble_eq_true rfl) rfl (by decide) (by decide) (by decide) ?_
  show TK _ _ _ _ _ Sh10 He71 _ _ _ _
  refine T_iinc dX5_init_67 rfl ?_
  show TK _ _ _ _ _ _ _ _ _ [.ref 1, .int (nI 62)] _
  refine T_goto dX5_init_70 ?_
  refine T_iload dX5_init_54 rfl ?_
  refine T_const dX5_init_55 ?_
  refine T_icmp_ge dX5_init_57 (fun z => absurd z (by decide)) (fun _ => ?_)
  refine T_aload dX5_init_60 rfl ?_
  refine T_getr (b := 3) dX5_init_61 lfX5_15 rfl rfl (Nat.le_of_ble_eq_true rfl) rfl ?_
  refine T_iload dX5_init_64 rfl ?_
  refine T_const dX5_init_65 ?_
  refine T_iastN (N := 64) (i := 62) dX5_init_66 rfl (Nat.le_of_ble_eq_true rfl) rfl (by decide) (by decide) (by decide) ?_
  show TK _ _ _ _ _ Sh10 He72 _ _ _ _
  refine T_iinc dX5_init_67 rfl ?_
  show TK _ _ _ _ _ _ _ _ _ [.ref 1, .int (nI 63)] _
  refine T_goto dX5_init_70 ?_
  refine T_iload dX5_init_54 rfl ?_
  refine T_const dX5_init_55 ?_
  refine T_icmp_ge dX5_init_57 (fun z => absurd z (by decide)) (fun _ => ?_)
  refine T_aload dX5_init_60 rfl ?_
  refine T_getr (b := 3) dX5_init_61 lfX5_15 rfl rfl (Nat.le_of_ble_eq_true rfl) rfl ?_
  refine T_iload dX5_init_64 rfl ?_
  refine T_const dX5_init_65 ?_
  refine T_iastN (N := 64) (i := 63) dX5_init_66 rfl (Nat.le_of_ble_eq_true rfl) rfl (by decide) (by decide) (by decide) ?_
  show TK _ _ _ _ _ Sh10 He73 _ _ _ _
  refine T_iinc dX5_init_67 rfl ?_
  show TK _ _ _ _ _ _ _ _ _ [.ref 1, .int (nI 64)] _
  refine T_goto dX5_init_70 ?_
  refine T_iload dX5_init_54 rfl ?_
  refine T_const dX5_init_55 ?_
  refine T_icmp_ge dX5_init_57 (fun _ => ?_) (fun z => absurd (by decide) z)
  exact T_vret dX5_init_73 ⟨⟨rfl, rfl, rfl⟩, rfl⟩
set_option maxRecDepth 20000 in
theorem nX9_init_6 (Z : aZ) (d : Nat) (hd : 0 ≤ d) : CM Z mX9_init d 3 376 [.ref 6] Sh12 He74 (fun r S h => r = none ∧ S = Sh18 ∧ h = He77) := by
  refine CM.of mokX9_init (Nat.le_of_ble_eq_true rfl) (TJ.mono (d := 0) ?_ hd (fun _ _ _ q => q))
  show TK _ _ _ _ _ _ _ _ _ [.ref 6] _
  refine T_aload dX9_init_0 rfl ?_
  refine T_objInit dX9_init_1 loX9_1 (Nat.le_of_ble_eq_true rfl) ?_
  refine T_aload dX9_init_4 rfl ?_
  refine T_const dX9_init_5 ?_
  refine T_newa (bc := 2) (bs := 256) (N := 120) (k := 20) dX9_init_7 (Or.inl ⟨rfl, rfl⟩) rfl (by decide) arrW (Nat.le_of_ble_eq_true rfl) ?_
  show TK _ _ _ _ _ Sh13 He75 _ _ _ (.ref 7 :: _)
  refine T_putF dX9_init_9 lfX9_9 rfl rfl ⟨rfl, rfl⟩ rfl (Nat.le_of_ble_eq_true rfl) ?_
  show TK _ _ _ _ _ Sh14 He75 _ _ _ _
  refine T_aload dX9_init_12 rfl ?_
  refine T_const dX9_init_13 ?_
  refine T_newa (bc := 1) (bs := 128) (N := 128) (k := 20) dX9_init_16 (Or.inl ⟨rfl, rfl⟩) rfl (by decide) arrW (Nat.le_of_ble_eq_true rfl) ?_
  show TK _ _ _ _ _ Sh15 He76 _ _ _ (.ref 8 :: _)
  refine T_putF dX9_init_18 lfX9_13 rfl rfl ⟨rfl, rfl⟩ rfl (Nat.le_of_ble_eq_true rfl) ?_
  show TK _ _ _ _ _ Sh16 He76 _ _ _ _
  refine T_aload dX9_init_21 rfl ?_
  refine T_const dX9_init_22 ?_
  refine T_newa (bc := 0) (bs := 0) (N := 128) (k := 20) dX9_init_25 (Or.inl ⟨rfl, rfl⟩) rfl (by decide) arrW (Nat.le_of_ble_eq_true rfl) ?_
  show TK _ _ _ _ _ Sh17 He77 _ _ _ (.ref 9 :: _)
  refine T_putF dX9_init_27 lfX9_16 rfl rfl ⟨rfl, rfl⟩ rfl (Nat.le_of_ble_eq_true rfl) ?_
  show TK _ _ _ _ _ Sh18 He77 _ _ _ _
  exact T_vret dX9_init_30 ⟨⟨rfl, rfl, rfl⟩, rfl⟩
set_option maxRecDepth 20000 in
theorem nX3_init_10 (Z : aZ) (d : Nat) (hd : 0 ≤ d) : CM Z mX3_init d 4 390 [.ref 10] Sh20 He78 (fun r S h => r = none ∧ S = Sh28 ∧ h = He82) := by
  refine CM.of mokX3_init (Nat.le_of_ble_eq_true rfl) (TJ.mono (d := 0) ?_ hd (fun _ _ _ q => q))
  show TK _ _ _ _ _ _ _ _ _ [.ref 10] _
  refine T_aload dX3_init_0 rfl ?_
  refine T_objInit dX3_init_1 loX3_1 (Nat.le_of_ble_eq_true rfl) ?_
  refine T_aload dX3_init_4 rfl ?_
  refine T_const dX3_init_5 ?_
  refine T_newa (bc := 3) (bs := 262) (N := 128) (k := 20) dX3_init_8 (Or.inl ⟨rfl, rfl⟩) rfl (by decide) arrW (Nat.le_of_ble_eq_true rfl) ?_
  show TK _ _ _ _ _ Sh21 He79 _ _ _ (.ref 11 :: _)
  refine T_putF dX3_init_10 lfX3_9 rfl rfl ⟨rfl, rfl⟩ rfl (Nat.le_of_ble_eq_true rfl) ?_
  show TK _ _ _ _ _ Sh22 He79 _ _ _ _
  refine T_aload dX3_init_13 rfl ?_
  refine T_const dX3_init_14 ?_
  refine T_newa (bc := 2) (bs := 134) (N := 128) (k := 20) dX3_init_17 (Or.inl ⟨rfl, rfl⟩) rfl (by decide) arrW (Nat.le_of_ble_eq_true rfl) ?_
  show TK _ _ _ _ _ Sh23 He80 _ _ _ (.ref 12 :: _)
  refine T_putF dX3_init_19 lfX3_15 rfl rfl ⟨rfl, rfl⟩ rfl (Nat.le_of_ble_eq_true rfl) ?_
  show TK _ _ _ _ _ Sh24 He80 _ _ _ _
  refine T_aload dX3_init_22 rfl ?_
  refine T_const dX3_init_23 ?_
  refine T_newa (bc := 1) (bs := 128) (N := 6) (k := 20) dX3_init_25 (Or.inl ⟨rfl, rfl⟩) rfl (by decide) arrW (Nat.le_of_ble_eq_true rfl) ?_
  show TK _ _ _ _ _ Sh25 He81 _ _ _ (.ref 13 :: _)
  refine T_putF dX3_init_27 lfX3_18 rfl rfl ⟨rfl, rfl⟩ rfl (Nat.le_of_ble_eq_true rfl) ?_
  show TK _ _ _ _ _ Sh26 He81 _ _ _ _
  refine T_aload dX3_init_30 rfl ?_
  refine T_const dX3_init_31 ?_
  refine T_newa (bc := 0) (bs := 0) (N := 128) (k := 20) dX3_init_34 (Or.inl ⟨rfl, rfl⟩) rfl (by decide) arrW (Nat.le_of_ble_eq_true rfl) ?_
  show TK _ _ _ _ _ Sh27 He82 _ _ _ (.ref 14 :: _)
  refine T_putF dX3_init_36 lfX3_21 rfl rfl ⟨rfl, rfl⟩ rfl (Nat.le_of_ble_eq_true rfl) ?_
  show TK _ _ _ _ _ Sh28 He82 _ _ _ _
  exact T_vret dX3_init_39 ⟨⟨rfl, rfl, rfl⟩, rfl⟩
set_option maxRecDepth 20000 in
theorem nX8_init_15 (Z : aZ) (d : Nat) (hd : 0 ≤ d) : CM Z mX8_init d 3 25 [.ref 15, .ref 1, .ref 10] Sh30 He83 (fun r S h => r = none ∧ S = Sh38 ∧ h = He87) := by
  refine CM.of mokX8_init (Nat.le_of_ble_eq_true rfl) (TJ.mono (d := 0) ?_ hd (fun _ _ _ q => q))
  show TK _ _ _ _ _ _ _ _ _ [.ref 15, .ref 1, .ref 10] _
  refine T_aload dX8_init_0 rfl ?_
  refine T_objInit dX8_init_1 loX8_3 (Nat.le_of_ble_eq_true rfl) ?_
  refine T_aload dX8_init_4 rfl ?_
  refine T_const dX8_init_5 ?_
  refine T_newa (bc := 2) (bs := 15) (N := 10) (k := 20) dX8_init_7 (Or.inl ⟨rfl, rfl⟩) rfl (by decide) arrW (Nat.le_of_ble_eq_true rfl) ?_
  show TK _ _ _ _ _ Sh31 He84 _ _ _ (.ref 16 :: _)
  refine T_putF dX8_init_9 lfX8_9 rfl rfl ⟨rfl, rfl⟩ rfl (Nat.le_of_ble_eq_true rfl) ?_
  show TK _ _ _ _ _ Sh32 He84 _ _ _ _
  refine T_aload dX8_init_12 rfl ?_
  refine T_const dX8_init_13 ?_
  refine T_newa (bc := 1) (bs := 10) (N := 5) (k := 20) dX8_init_14 (Or.inl ⟨rfl, rfl⟩) rfl (by decide) arrW (Nat.le_of_ble_eq_true rfl) ?_
  show TK _ _ _ _ _ Sh33 He85 _ _ _ (.ref 17 :: _)
  refine T_putF dX8_init_16 lfX8_15 rfl rfl ⟨rfl, rfl⟩ rfl (Nat.le_of_ble_eq_true rfl) ?_
  show TK _ _ _ _ _ Sh34 He85 _ _ _ _
  refine T_aload dX8_init_19 rfl ?_
  refine T_const dX8_init_20 ?_
  refine T_newa (bc := 0) (bs := 0) (N := 10) (k := 20) dX8_init_22 (Or.inl ⟨rfl, rfl⟩) rfl (by decide) arrW (Nat.le_of_ble_eq_true rfl) ?_
  show TK _ _ _ _ _ Sh35 He86 _ _ _ (.ref 18 :: _)
  refine T_putF dX8_init_24 lfX8_18 rfl rfl ⟨rfl, rfl⟩ rfl (Nat.le_of_ble_eq_true rfl) ?_
  show TK _ _ _ _ _ Sh36 He86 _ _ _ _
  refine T_aload dX8_init_27 rfl ?_
  refine T_const dX8_init_28 ?_
  refine T_putf dX8_init_30 lfX8_21 rfl rfl rfl (Nat.le_of_ble_eq_true rfl) ⟨rfl, rfl⟩ ?_
  show TK _ _ _ _ _ Sh36 He87 _ _ _ _
  refine T_aload dX8_init_33 rfl ?_
  refine T_aload dX8_init_34 rfl ?_
  refine T_putF dX8_init_35 lfX8_25 rfl rfl ⟨rfl, rfl⟩ rfl (Nat.le_of_ble_eq_true rfl) ?_
  show TK _ _ _ _ _ Sh37 He87 _ _ _ _
  refine T_aload dX8_init_38 rfl ?_
  refine T_aload dX8_init_39 rfl ?_
  refine T_putF dX8_init_40 lfX8_29 rfl rfl ⟨rfl, rfl⟩ rfl (Nat.le_of_ble_eq_true rfl) ?_
  show TK _ _ _ _ _ Sh38 He87 _ _ _ _
  exact T_vret dX8_init_43 ⟨⟨rfl, rfl, rfl⟩, rfl⟩
set_option maxRecDepth 20000 in
theorem nX8_init_19 (Z : aZ) (d : Nat) (hd : 0 ≤ d) : CM Z mX8_init d 3 25 [.ref 19, .ref 1, .ref 10] Sh40 He88 (fun r S h => r = none ∧ S = Sh48 ∧ h = He92) := by
  refine CM.of mokX8_init (Nat.le_of_ble_eq_true rfl) (TJ.mono (d := 0) ?_ hd (fun _ _ _ q => q))
  show TK _ _ _ _ _ _ _ _ _ [.ref 19, .ref 1, .ref 10] _
  refine T_aload dX8_init_0 rfl ?_
  refine T_objInit dX8_init_1 loX8_3 (Nat.le_of_ble_eq_true rfl) ?_
  refine T_aload dX8_init_4 rfl ?_
  refine T_const dX8_init_5 ?_
  refine T_newa (bc := 2) (bs := 15) (N := 10) (k := 20) dX8_init_7 (Or.inl ⟨rfl, rfl⟩) rfl (by decide) arrW (Nat.le_of_ble_eq_true rfl) ?_
  show TK _ _ _ _ _ Sh41 He89 _ _ _ (.ref 20 :: _)
  refine T_putF dX8_init_9 lfX8_9 rfl rfl ⟨rfl, rfl⟩ rfl (Nat.le_of_ble_eq_true rfl) ?_
  show TK _ _ _ _ _ Sh42 He89 _ _ _ _
  refine T_aload dX8_init_12 rfl ?_
  refine T_const dX8_init_13 ?_
  refine T_newa (bc := 1) (bs := 10) (N := 5) (k := 20) dX8_init_14 (Or.inl ⟨rfl, rfl⟩) rfl (by decide) arrW (Nat.le_of_ble_eq_true rfl) ?_
  show TK _ _ _ _ _ Sh43 He90 _ _ _ (.ref 21 :: _)
  refine T_putF dX8_init_16 lfX8_15 rfl rfl ⟨rfl, rfl⟩ rfl (Nat.le_of_ble_eq_true rfl) ?_
  show TK _ _ _ _ _ Sh44 He90 _ _ _ _
  refine T_aload dX8_init_19 rfl ?_
  refine T_const dX8_init_20 ?_
  refine T_newa (bc := 0) (bs := 0) (N := 10) (k := 20) dX8_init_22 (Or.inl ⟨rfl, rfl⟩) rfl (by decide) arrW (Nat.le_of_ble_eq_true rfl) ?_
  show TK _ _ _ _ _ Sh45 He91 _ _ _ (.ref 22 :: _)
  refine T_putF dX8_init_24 lfX8_18 rfl rfl ⟨rfl, rfl⟩ rfl (Nat.le_of_ble_eq_true rfl) ?_
  show TK _ _ _ _ _ Sh46 He91 _ _ _ _
  refine T_aload dX8_init_27 rfl ?_
  refine T_const dX8_init_28 ?_
  refine T_putf dX8_init_30 lfX8_21 rfl rfl rfl (Nat.le_of_ble_eq_true rfl) ⟨rfl, rfl⟩ ?_
  show TK _ _ _ _ _ Sh46 He92 _ _ _ _
  refine T_aload dX8_init_33 rfl ?_
  refine T_aload dX8_init_34 rfl ?_
  refine T_putF dX8_init_35 lfX8_25 rfl rfl ⟨rfl, rfl⟩ rfl (Nat.le_of_ble_eq_true rfl) ?_
  show TK _ _ _ _ _ Sh47 He92 _ _ _ _
  refine T_aload dX8_init_38 rfl ?_
  refine T_aload dX8_init_39 rfl ?_
  refine T_putF dX8_init_40 lfX8_29 rfl rfl ⟨rfl, rfl⟩ rfl (Nat.le_of_ble_eq_true rfl) ?_
  show TK _ _ _ _ _ Sh48 He92 _ _ _ _
  exact T_vret dX8_init_43 ⟨⟨rfl, rfl, rfl⟩, rfl⟩
set_option maxRecDepth 20000 in
theorem nX8_init_27 (Z : aZ) (d : Nat) (hd : 0 ≤ d) : CM Z mX8_init d 3 25 [.ref 27, .ref 1, .ref 10] Sh57 He97 (fun r S h => r = none ∧ S = Sh65 ∧ h = He101) := by
  refine CM.of mokX8_init (Nat.le_of_ble_eq_true rfl) (TJ.mono (d := 0) ?_ hd (fun _ _ _ q => q))
  show TK _ _ _ _ _ _ _ _ _ [.ref 27, .ref 1, .ref 10] _
  refine T_aload dX8_init_0 rfl ?_
  refine T_objInit dX8_init_1 loX8_3 (Nat.le_of_ble_eq_true rfl) ?_
  refine T_aload dX8_init_4 rfl ?_
  refine T_const dX8_init_5 ?_
  refine T_newa (bc := 2) (bs := 15) (N := 10) (k := 20) dX8_init_7 (Or.inl ⟨rfl, rfl⟩) rfl (by decide) arrW (Nat.le_of_ble_eq_true rfl) ?_
  show TK _ _ _ _ _ Sh58 He98 _ _ _ (.ref 28 :: _)
  refine T_putF dX8_init_9 lfX8_9 rfl rfl ⟨rfl, rfl⟩ rfl (Nat.le_of_ble_eq_true rfl) ?_
  show TK _ _ _ _ _ Sh59 He98 _ _ _ _
  refine T_aload dX8_init_12 rfl ?_
  refine T_const dX8_init_13 ?_
  refine T_newa (bc := 1) (bs := 10) (N := 5) (k := 20) dX8_init_14 (Or.inl ⟨rfl, rfl⟩) rfl (by decide) arrW (Nat.le_of_ble_eq_true rfl) ?_
  show TK _ _ _ _ _ Sh60 He99 _ _ _ (.ref 29 :: _)
  refine T_putF dX8_init_16 lfX8_15 rfl rfl ⟨rfl, rfl⟩ rfl (Nat.le_of_ble_eq_true rfl) ?_
  show TK _ _ _ _ _ Sh61 He99 _ _ _ _
  refine T_aload dX8_init_19 rfl ?_
  refine T_const dX8_init_20 ?_
  refine T_newa (bc := 0) (bs := 0) (N := 10) (k := 20) dX8_init_22 (Or.inl ⟨rfl, rfl⟩) rfl (by decide) arrW (Nat.le_of_ble_eq_true rfl) ?_
  show TK _ _ _ _ _ Sh62 He100 _ _ _ (.ref 30 :: _)
  refine T_putF dX8_init_24 lfX8_18 rfl rfl ⟨rfl, rfl⟩ rfl (Nat.le_of_ble_eq_true rfl) ?_
  show TK _ _ _ _ _ Sh63 He100 _ _ _ _
  refine T_aload dX8_init_27 rfl ?_
  refine T_const dX8_init_28 ?_
  refine T_putf dX8_init_30 lfX8_21 rfl rfl rfl (Nat.le_of_ble_eq_true rfl) ⟨rfl, rfl⟩ ?_
  show TK _ _ _ _ _ Sh63 He101 _ _ _ _
  refine T_aload dX8_init_33 rfl ?_
  refine T_aload dX8_init_34 rfl ?_
  refine T_putF dX8_init_35 lfX8_25 rfl rfl ⟨rfl, rfl⟩ rfl (Nat.le_of_ble_eq_true rfl) ?_
  show TK _ _ _ _ _ Sh64 He101 _ _ _ _
  refine T_aload dX8_init_38 rfl ?_
  refine T_aload dX8_init_39 rfl ?_
  refine T_putF dX8_init_40 lfX8_29 rfl rfl ⟨rfl, rfl⟩ rfl (Nat.le_of_ble_eq_true rfl) ?_
  show TK _ _ _ _ _ Sh65 He101 _ _ _ _
  exact T_vret dX8_init_43 ⟨⟨rfl, rfl, rfl⟩, rfl⟩
set_option maxRecDepth 20000 in
theorem nX8_init_31 (Z : aZ) (d : Nat) (hd : 0 ≤ d) : CM Z mX8_init d 3 25 [.ref 31, .ref 1, .ref 10] Sh67 He102 (fun r S h => r = none ∧ S = Sh75 ∧ h = He106) := by
  refine CM.of mokX8_init (Nat.le_of_ble_eq_true rfl) (TJ.mono (d := 0) ?_ hd (fun _ _ _ q => q))
  show TK _ _ _ _ _ _ _ _ _ [.ref 31, .ref 1, .ref 10] _
  refine T_aload dX8_init_0 rfl ?_
  refine T_objInit dX8_init_1 loX8_3 (Nat.le_of_ble_eq_true rfl) ?_
  refine T_aload dX8_init_4 rfl ?_
  refine T_const dX8_init_5 ?_
  refine T_newa (bc := 2) (bs := 15) (N := 10) (k := 20) dX8_init_7 (Or.inl ⟨rfl, rfl⟩) rfl (by decide) arrW (Nat.le_of_ble_eq_true rfl) ?_
  show TK _ _ _ _ _ Sh68 He103 _ _ _ (.ref 32 :: _)
  refine T_putF dX8_init_9 lfX8_9 rfl rfl ⟨rfl, rfl⟩ rfl (Nat.le_of_ble_eq_true rfl) ?_
  show TK _ _ _ _ _ Sh69 He103 _ _ _ _
  refine T_aload dX8_init_12 rfl ?_
  refine T_const dX8_init_13 ?_
  refine T_newa (bc := 1) (bs := 10) (N := 5) (k := 20) dX8_init_14 (Or.inl ⟨rfl, rfl⟩) rfl (by decide) arrW (Nat.le_of_ble_eq_true rfl) ?_
  show TK _ _ _ _ _ Sh70 He104 _ _ _ (.ref 33 :: _)
  refine T_putF dX8_init_16 lfX8_15 rfl rfl ⟨rfl, rfl⟩ rfl (Nat.le_of_ble_eq_true rfl) ?_
  show TK _ _ _ _ _ Sh71 He104 _ _ _ _
  refine T_aload dX8_init_19 rfl ?_
  refine T_const dX8_init_20 ?_
  refine T_newa (bc := 0) (bs := 0) (N := 10) (k := 20) dX8_init_22 (Or.inl ⟨rfl, rfl⟩) rfl (by decide) arrW (Nat.le_of_ble_eq_true rfl) ?_
  show TK _ _ _ _ _ Sh72 He105 _ _ _ (.ref 34 :: _)
  refine T_putF dX8_init_24 lfX8_18 rfl rfl ⟨rfl, rfl⟩ rfl (Nat.le_of_ble_eq_true rfl) ?_
  show TK _ _ _ _ _ Sh73 He105 _ _ _ _
  refine T_aload dX8_init_27 rfl ?_
  refine T_const dX8_init_28 ?_
  refine T_putf dX8_init_30 lfX8_21 rfl rfl rfl (Nat.le_of_ble_eq_true rfl) ⟨rfl, rfl⟩ ?_
  show TK _ _ _ _ _ Sh73 He106 _ _ _ _
  refine T_aload dX8_init_33 rfl ?_
  refine T_aload dX8_init_34 rfl ?_
  refine T_putF dX8_init_35 lfX8_25 rfl rfl ⟨rfl, rfl⟩ rfl (Nat.le_of_ble_eq_true rfl) ?_
  show TK _ _ _ _ _ Sh74 He106 _ _ _ _
  refine T_aload dX8_init_38 rfl ?_
  refine T_aload dX8_init_39 rfl ?_
  refine T_putF dX8_init_40 lfX8_29 rfl rfl ⟨rfl, rfl⟩ rfl (Nat.le_of_ble_eq_true rfl) ?_
  show TK _ _ _ _ _ Sh75 He106 _ _ _ _
  exact T_vret dX8_init_43 ⟨⟨rfl, rfl, rfl⟩, rfl⟩
set_option maxRecDepth 20000 in
theorem nX8_init_35 (Z : aZ) (d : Nat) (hd : 0 ≤ d) : CM Z mX8_init d 3 25 [.ref 35, .ref 1, .ref 10] Sh77 He107 (fun r S h => r = none ∧ S = Sh85 ∧ h = He111) := by
  refine CM.of mokX8_init (Nat.le_of_ble_eq_true rfl) (TJ.mono (d := 0) ?_ hd (fun _ _ _ q => q))
  show TK _ _ _ _ _ _ _ _ _ [.ref 35, .ref 1, .ref 10] _
  refine T_aload dX8_init_0 rfl ?_
  refine T_objInit dX8_init_1 loX8_3 (Nat.le_of_ble_eq_true rfl) ?_
  refine T_aload dX8_init_4 rfl ?_
  refine T_const dX8_init_5 ?_
  refine T_newa (bc := 2) (bs := 15) (N := 10) (k := 20) dX8_init_7 (Or.inl ⟨rfl, rfl⟩) rfl (by decide) arrW (Nat.le_of_ble_eq_true rfl) ?_
  show TK _ _ _ _ _ Sh78 He108 _ _ _ (.ref 36 :: _)
  refine T_putF dX8_init_9 lfX8_9 rfl rfl ⟨rfl, rfl⟩ rfl (Nat.le_of_ble_eq_true rfl) ?_
  show TK _ _ _ _ _ Sh79 He108 _ _ _ _
  refine T_aload dX8_init_12 rfl ?_
  refine T_const dX8_init_13 ?_
  refine T_newa (bc := 1) (bs := 10) (N := 5) (k := 20) dX8_init_14 (Or.inl ⟨rfl, rfl⟩) rfl (by decide) arrW (Nat.le_of_ble_eq_true rfl) ?_
  show TK _ _ _ _ _ Sh80 He109 _ _ _ (.ref 37 :: _)
  refine T_putF dX8_init_16 lfX8_15 rfl rfl ⟨rfl, rfl⟩ rfl (Nat.le_of_ble_eq_true rfl) ?_
  show TK _ _ _ _ _ Sh81 He109 _ _ _ _
  refine T_aload dX8_init_19 rfl ?_
  refine T_const dX8_init_20 ?_
  refine T_newa (bc := 0) (bs := 0) (N := 10) (k := 20) dX8_init_22 (Or.inl ⟨rfl, rfl⟩) rfl (by decide) arrW (Nat.le_of_ble_eq_true rfl) ?_
  show TK _ _ _ _ _ Sh82 He110 _ _ _ (.ref 38 :: _)
  refine T_putF dX8_init_24 lfX8_18 rfl rfl ⟨rfl, rfl⟩ rfl (Nat.le_of_ble_eq_true rfl) ?_
  show TK _ _ _ _ _ Sh83 He110 _ _ _ _
  refine T_aload dX8_init_27 rfl ?_
  refine T_const dX8_init_28 ?_
  refine T_putf dX8_init_30 lfX8_21 rfl rfl rfl (Nat.le_of_ble_eq_true rfl) ⟨rfl, rfl⟩ ?_
  show TK _ _ _ _ _ Sh83 He111 _ _ _ _
  refine T_aload dX8_init_33 rfl ?_
  refine T_aload dX8_init_34 rfl ?_
  refine T_putF dX8_init_35 lfX8_25 rfl rfl ⟨rfl, rfl⟩ rfl (Nat.le_of_ble_eq_true rfl) ?_
  show TK _ _ _ _ _ Sh84 He111 _ _ _ _
  refine T_aload dX8_init_38 rfl ?_
  refine T_aload dX8_init_39 rfl ?_
  refine T_putF dX8_init_40 lfX8_29 rfl rfl ⟨rfl, rfl⟩ rfl (Nat.le_of_ble_eq_true rfl) ?_
  show TK _ _ _ _ _ Sh85 He111 _ _ _ _
  exact T_vret dX8_init_43 ⟨⟨rfl, rfl, rfl⟩, rfl⟩
set_option maxRecDepth 20000 in
theorem nX8_init_39 (Z : aZ) (d : Nat) (hd : 0 ≤ d) : CM Z mX8_init d 3 25 [.ref 39, .ref 1, .ref 10] Sh87 He112 (fun r S h => r = none ∧ S = Sh95 ∧ h = He116) := by
  refine CM.of mokX8_init (Nat.le_of_ble_eq_true rfl) (TJ.mono (d := 0) ?_ hd (fun _ _ _ q => q))
  show TK _ _ _ _ _ _ _ _ _ [.ref 39, .ref 1, .ref 10] _
  refine T_aload dX8_init_0 rfl ?_
  refine T_objInit dX8_init_1 loX8_3 (Nat.le_of_ble_eq_true rfl) ?_
  refine T_aload dX8_init_4 rfl ?_
  refine T_const dX8_init_5 ?_
  refine T_newa (bc := 2) (bs := 15) (N := 10) (k := 20) dX8_init_7 (Or.inl ⟨rfl, rfl⟩) rfl (by decide) arrW (Nat.le_of_ble_eq_true rfl) ?_
  show TK _ _ _ _ _ Sh88 He113 _ _ _ (.ref 40 :: _)
  refine T_putF dX8_init_9 lfX8_9 rfl rfl ⟨rfl, rfl⟩ rfl (Nat.le_of_ble_eq_true rfl) ?_
  show TK _ _ _ _ _ Sh89 He113 _ _ _ _
  refine T_aload dX8_init_12 rfl ?_
  refine T_const dX8_init_13 ?_
  refine T_newa (bc := 1) (bs := 10) (N := 5) (k := 20) dX8_init_14 (Or.inl ⟨rfl, rfl⟩) rfl (by decide) arrW (Nat.le_of_ble_eq_true rfl) ?_
  show TK _ _ _ _ _ Sh90 He114 _ _ _ (.ref 41 :: _)
  refine T_putF dX8_init_16 lfX8_15 rfl rfl ⟨rfl, rfl⟩ rfl (Nat.le_of_ble_eq_true rfl) ?_
  show TK _ _ _ _ _ Sh91 He114 _ _ _ _
  refine T_aload dX8_init_19 rfl ?_
  refine T_const dX8_init_20 ?_
  refine T_newa (bc := 0) (bs := 0) (N := 10) (k := 20) dX8_init_22 (Or.inl ⟨rfl, rfl⟩) rfl (by decide) arrW (Nat.le_of_ble_eq_true rfl) ?_
  show TK _ _ _ _ _ Sh92 He115 _ _ _ (.ref 42 :: _)
  refine T_putF dX8_init_24 lfX8_18 rfl rfl ⟨rfl, rfl⟩ rfl (Nat.le_of_ble_eq_true rfl) ?_
  show TK _ _ _ _ _ Sh93 He115 _ _ _ _
  refine T_aload dX8_init_27 rfl ?_
  refine T_const dX8_init_28 ?_
  refine T_putf dX8_init_30 lfX8_21 rfl rfl rfl (Nat.le_of_ble_eq_true rfl) ⟨rfl, rfl⟩ ?_
  show TK _ _ _ _ _ Sh93 He116 _ _ _ _
  refine T_aload dX8_init_33 rfl ?_
  refine T_aload dX8_init_34 rfl ?_
  refine T_putF dX8_init_35 lfX8_25 rfl rfl ⟨rfl, rfl⟩ rfl (Nat.le_of_ble_eq_true rfl) ?_
  show TK _ _ _ _ _ Sh94 He116 _ _ _ _
  refine T_aload dX8_init_38 rfl ?_
  refine T_aload dX8_init_39 rfl ?_
  refine T_putF dX8_init_40 lfX8_29 rfl rfl ⟨rfl, rfl⟩ rfl (Nat.le_of_ble_eq_true rfl) ?_
  show TK _ _ _ _ _ Sh95 He116 _ _ _ _
  exact T_vret dX8_init_43 ⟨⟨rfl, rfl, rfl⟩, rfl⟩
set_option maxRecDepth 20000 in
theorem nX8_init_43 (Z : aZ) (d : Nat) (hd : 0 ≤ d) : CM Z mX8_init d 3 25 [.ref 43, .ref 1, .ref 10] Sh97 He117 (fun r S h => r = none ∧ S = Sh105 ∧ h = He121) := by
  refine CM.of mokX8_init (Nat.le_of_ble_eq_true rfl) (TJ.mono (d := 0) ?_ hd (fun _ _ _ q => q))
  show TK _ _ _ _ _ _ _ _ _ [.ref 43, .ref 1, .ref 10] _
  refine T_aload dX8_init_0 rfl ?_
  refine T_objInit dX8_init_1 loX8_3 (Nat.le_of_ble_eq_true rfl) ?_
  refine T_aload dX8_init_4 rfl ?_
  refine T_const dX8_init_5 ?_
  refine T_newa (bc := 2) (bs := 15) (N := 10) (k := 20) dX8_init_7 (Or.inl ⟨rfl, rfl⟩) rfl (by decide) arrW (Nat.le_of_ble_eq_true rfl) ?_
  show TK _ _ _ _ _ Sh98 He118 _ _ _ (.ref 44 :: _)
  refine T_putF dX8_init_9 lfX8_9 rfl rfl ⟨rfl, rfl⟩ rfl (Nat.le_of_ble_eq_true rfl) ?_
  show TK _ _ _ _ _ Sh99 He118 _ _ _ _
  refine T_aload dX8_init_12 rfl ?_
  refine T_const dX8_init_13 ?_
  refine T_newa (bc := 1) (bs := 10) (N := 5) (k := 20) dX8_init_14 (Or.inl ⟨rfl, rfl⟩) rfl (by decide) arrW (Nat.le_of_ble_eq_true rfl) ?_
  show TK _ _ _ _ _ Sh100 He119 _ _ _ (.ref 45 :: _)
  refine T_putF dX8_init_16 lfX8_15 rfl rfl ⟨rfl, rfl⟩ rfl (Nat.le_of_ble_eq_true rfl) ?_
  show TK _ _ _ _ _ Sh101 He119 _ _ _ _
  refine T_aload dX8_init_19 rfl ?_
  refine T_const dX8_init_20 ?_
  refine T_newa (bc := 0) (bs := 0) (N := 10) (k := 20) dX8_init_22 (Or.inl ⟨rfl, rfl⟩) rfl (by decide) arrW (Nat.le_of_ble_eq_true rfl) ?_
  show TK _ _ _ _ _ Sh102 He120 _ _ _ (.ref 46 :: _)
  refine T_putF dX8_init_24 lfX8_18 rfl rfl ⟨rfl, rfl⟩ rfl (Nat.le_of_ble_eq_true rfl) ?_
  show TK _ _ _ _ _ Sh103 He120 _ _ _ _
  refine T_aload dX8_init_27 rfl ?_
  refine T_const dX8_init_28 ?_
  refine T_putf dX8_init_30 lfX8_21 rfl rfl rfl (Nat.le_of_ble_eq_true rfl) ⟨rfl, rfl⟩ ?_
  show TK _ _ _ _ _ Sh103 He121 _ _ _ _
  refine T_aload dX8_init_33 rfl ?_
  refine T_aload dX8_init_34 rfl ?_
  refine T_putF dX8_init_35 lfX8_25 rfl rfl ⟨rfl, rfl⟩ rfl (Nat.le_of_ble_eq_true rfl) ?_
  show TK _ _ _ _ _ Sh104 He121 _ _ _ _
  refine T_aload dX8_init_38 rfl ?_
  refine T_aload dX8_init_39 rfl ?_
  refine T_putF dX8_init_40 lfX8_29 rfl rfl ⟨rfl, rfl⟩ rfl (Nat.le_of_ble_eq_true rfl) ?_
  show TK _ _ _ _ _ Sh105 He121 _ _ _ _
  exact T_vret dX8_init_43 ⟨⟨rfl, rfl, rfl⟩, rfl⟩
set_option maxRecDepth 20000 in
theorem nX6_init_23 (Z : aZ) (d : Nat) (hd : 1 ≤ d) : CM Z mX6_init d 23 805 [.ref 23, .ref 1, .ref 10] Sh50 He93 (fun r S h => r = none ∧ S = Sh106 ∧ h = He121) := by
  refine CM.of mokX6_init (Nat.le_of_ble_eq_true rfl) (TJ.mono (d := 1) ?_ hd (fun _ _ _ q => q))
  show TK _ _ _ _ _ _ _ _ _ [.ref 23, .ref 1, .ref 10, .null] _
  refine T_aload dX6_init_0 rfl ?_
  refine T_objInit dX6_init_1 loX6_3 (Nat.le_of_ble_eq_true rfl) ?_
  refine T_aload dX6_init_4 rfl ?_
  refine T_const dX6_init_5 ?_
  refine T_newq (bc := 22) (bs := 800) (N := 5) (k := 0) dX6_init_6 (by decide) lqX6_9 rfl (by decide) (Nat.le_of_ble_eq_true rfl) ?_
  show TK _ _ _ _ _ Sh51 He94 _ _ _ (.ref 24 :: _)
  refine T_putF dX6_init_9 lfX6_11 rfl rfl ⟨rfl, rfl⟩ rfl (Nat.le_of_ble_eq_true rfl) ?_
  show TK _ _ _ _ _ Sh52 He94 _ _ _ _
  refine T_aload dX6_init_12 rfl ?_
  refine T_const dX6_init_13 ?_
  refine T_newa (bc := 21) (bs := 175) (N := 625) (k := 20) dX6_init_16 (Or.inl ⟨rfl, rfl⟩) rfl (by decide) arrW (Nat.le_of_ble_eq_true rfl) ?_
  show TK _ _ _ _ _ Sh53 He95 _ _ _ (.ref 25 :: _)
  refine T_putF dX6_init_18 lfX6_17 rfl rfl ⟨rfl, rfl⟩ rfl (Nat.le_of_ble_eq_true rfl) ?_
  show TK _ _ _ _ _ Sh54 He95 _ _ _ _
  refine T_aload dX6_init_21 rfl ?_
  refine T_const dX6_init_22 ?_
  refine T_newa (bc := 20) (bs := 165) (N := 10) (k := 20) dX6_init_24 (Or.inl ⟨rfl, rfl⟩) rfl (by decide) arrW (Nat.le_of_ble_eq_true rfl) ?_
  show TK _ _ _ _ _ Sh55 He96 _ _ _ (.ref 26 :: _)
  refine T_putF dX6_init_26 lfX6_21 rfl rfl ⟨rfl, rfl⟩ rfl (Nat.le_of_ble_eq_true rfl) ?_
  show TK _ _ _ _ _ Sh56 He96 _ _ _ _
  refine T_const dX6_init_29 ?_
  refine T_istore dX6_init_30 ?_
  show TK _ _ _ _ _ _ _ _ _ [.ref 23, .ref 1, .ref 10, .int (nI 0)] _
  refine T_iload dX6_init_31 rfl ?_
  refine T_const dX6_init_32 ?_
  refine T_icmp_gt dX6_init_33 (fun z => absurd z (by decide)) (fun _ => ?_)
  refine T_aload dX6_init_36 rfl ?_
  refine T_getr (b := 24) dX6_init_37 lfX6_11 rfl rfl (Nat.le_of_ble_eq_true rfl) rfl ?_
  refine T_iload dX6_init_40 rfl ?_
  refine T_new (bc := 19) (bs := 157) dX6_init_41 lnX6_9 (Nat.le_of_ble_eq_true rfl) ?_
  show TK _ _ _ _ _ Sh57 He97 _ _ _ (.ref 27 :: _)
  refine T_dup dX6_init_44 rfl ?_
  refine T_aload dX6_init_45 rfl ?_
  refine T_aload dX6_init_46 rfl ?_
  refine T_callI (mc := 3) (ms := 25) (As := [.ref 1, .ref 10]) (Q2 := fun r S h => r = none ∧ S = Sh65 ∧ h = He101) dX6_init_47 liX6_24 rfl rfl (Nat.le_of_ble_eq_true rfl) (Nat.le_of_ble_eq_true rfl) ⟨Nat.le_of_ble_eq_true rfl, Nat.le_of_ble_eq_true rfl⟩ (nX8_init_27 Z _ (Nat.le_of_ble_eq_true rfl)) ?_
  intro r S h qr
  obtain ⟨rfl, rfl, rfl⟩ := qr
  show TK _ _ _ 16 132 _ _ _ _ _ _
  refine T_aast (k := 0) (ci := 8) dX6_init_50 rfl (by decide) (Nat.le_of_ble_eq_true rfl) (Nat.le_of_ble_eq_true rfl) rfl (by decide) rfl (vp_in_nI (N := 5) (by decide) (by decide)) ?_
  show TK _ _ _ _ _ Sh66 He101 _ _ _ _
  refine T_iinc dX6_init_51 rfl ?_
  show TK _ _ _ _ _ _ _ _ _ [.ref 23, .ref 1, .ref 10, .int (nI 1)] _
  refine T_goto dX6_init_54 ?_
  refine T_iload dX6_init_31 rfl ?_
  refine T_const dX6_init_32 ?_
  refine T_icmp_gt dX6_init_33 (fun z => absurd z (by decide)) (fun _ => ?_)
  refine T_aload dX6_init_36 rfl ?_
  refine T_getr (b := 24) dX6_init_37 lfX6_11 rfl rfl (Nat.le_of_ble_eq_true rfl) rfl ?_
  refine T_iload dX6_init_40 rfl ?_
  refine T_new (bc := 15) (bs := 124) dX6_init_41 lnX6_9 (Nat.le_of_ble_eq_true rfl) ?_
  show TK _ _ _ _ _ Sh67 He102 _ _ _ (.ref 31 :: _)
  refine T_dup dX6_init_44 rfl ?_
  refine T_aload dX6_init_45 rfl ?_
  refine T_aload dX6_init_46 rfl ?_
  refine T_callI (mc := 3) (ms := 25) (As := [.ref 1, .ref 10]) (Q2 := fun r S h => r = none ∧ S = Sh75 ∧ h = He106) dX6_init_47 liX6_24 rfl rfl (Nat.le_of_ble_eq_true rfl) (Nat.le_of_ble_eq_true rfl) ⟨Nat.le_of_ble_eq_true rfl, Nat.le_of_ble_eq_true rfl⟩ (nX8_init_31 Z _ (Nat.le_of_ble_eq_true rfl)) ?_
  intro r S h qr
  obtain ⟨rfl, rfl, rfl⟩ := qr
  show TK _ _ _ 12 99 _ _ _ _ _ _
  refine T_aast (k := 0) (ci := 8) dX6_init_50 rfl (by decide) (Nat.le_of_ble_eq_true rfl) (Nat.le_of_ble_eq_true rfl) rfl (by decide) rfl (vp_in_nI (N := 5) (by decide) (by decide)) ?_
  show TK _ _ _ _ _ Sh76 He106 _ _ _ _
  refine T_iinc dX6_init_51 rfl ?_
  show TK _ _ _ _ _ _ _ _ _ [.ref 23, .ref 1, .ref 10, .int (nI 2)] _
  refine T_goto dX6_init_54 ?_
  refine T_iload dX6_init_31 rfl ?_
  refine T_const dX6_init_32 ?_
  refine T_icmp_gt dX6_init_33 (fun z => absurd z (by decide)) (fun _ => ?_)
  refine T_aload dX6_init_36 rfl ?_
  refine T_getr (b := 24) dX6_init_37 lfX6_11 rfl rfl (Nat.le_of_ble_eq_true rfl) rfl ?_
  refine T_iload dX6_init_40 rfl ?_
  refine T_new (bc := 11) (bs := 91) dX6_init_41 lnX6_9 (Nat.le_of_ble_eq_true rfl) ?_
  show TK _ _ _ _ _ Sh77 He107 _ _ _ (.ref 35 :: _)
  refine T_dup dX6_init_44 rfl ?_
  refine T_aload dX6_init_45 rfl ?_
  refine T_aload dX6_init_46 rfl ?_
  refine T_callI (mc := 3) (ms := 25) (As := [.ref 1, .ref 10]) (Q2 := fun r S h => r = none ∧ S = Sh85 ∧ h = He111) dX6_init_47 liX6_24 rfl rfl (Nat.le_of_ble_eq_true rfl) (Nat.le_of_ble_eq_true rfl) ⟨Nat.le_of_ble_eq_true rfl, Nat.le_of_ble_eq_true rfl⟩ (nX8_init_35 Z _ (Nat.le_of_ble_eq_true rfl)) ?_
  intro r S h qr
  obtain ⟨rfl, rfl, rfl⟩ := qr
  show TK _ _ _ 8 66 _ _ _ _ _ _
  refine T_aast (k := 0) (ci := 8) dX6_init_50 rfl (by decide) (Nat.le_of_ble_eq_true rfl) (Nat.le_of_ble_eq_true rfl) rfl (by decide) rfl (vp_in_nI (N := 5) (by decide) (by decide)) ?_
  show TK _ _ _ _ _ Sh86 He111 _ _ _ _
  refine T_iinc dX6_init_51 rfl ?_
  show TK _ _ _ _ _ _ _ _ _ [.ref 23, .ref 1, .ref 10, .int (nI 3)] _
  refine T_goto dX6_init_54 ?_
  refine T_iload dX6_init_31 rfl ?_
  refine T_const dX6_init_32 ?_
  refine T_icmp_gt dX6_init_33 (fun z => absurd z (by decide)) (fun _ => ?_)
  refine T_aload dX6_init_36 rfl ?_
  refine T_getr (b := 24) dX6_init_37 lfX6_11 rfl rfl (Nat.le_of_ble_eq_true rfl) rfl ?_
  refine T_iload dX6_init_40 rfl ?_
  refine T_new (bc := 7) (bs := 58) dX6_init_41 lnX6_9 (Nat.le_of_ble_eq_true rfl) ?_
  show TK _ _ _ _ _ Sh87 He112 _ _ _ (.ref 39 :: _)
  refine T_dup dX6_init_44 rfl ?_
  refine T_aload dX6_init_45 rfl ?_
  refine T_aload dX6_init_46 rfl ?_
  refine T_callI (mc := 3) (ms := 25) (As := [.ref 1, .ref 10]) (Q2 := fun r S h => r = none ∧ S = Sh95 ∧ h = He116) dX6_init_47 liX6_24 rfl rfl (Nat.le_of_ble_eq_true rfl) (Nat.le_of_ble_eq_true rfl) ⟨Nat.le_of_ble_eq_true rfl, Nat.le_of_ble_eq_true rfl⟩ (nX8_init_39 Z _ (Nat.le_of_ble_eq_true rfl)) ?_
  intro r S h qr
  obtain ⟨rfl, rfl, rfl⟩ := qr
  show TK _ _ _ 4 33 _ _ _ _ _ _
  refine T_aast (k := 0) (ci := 8) dX6_init_50 rfl (by decide) (Nat.le_of_ble_eq_true rfl) (Nat.le_of_ble_eq_true rfl) rfl (by decide) rfl (vp_in_nI (N := 5) (by decide) (by decide)) ?_
  show TK _ _ _ _ _ Sh96 He116 _ _ _ _
  refine T_iinc dX6_init_51 rfl ?_
  show TK _ _ _ _ _ _ _ _ _ [.ref 23, .ref 1, .ref 10, .int (nI 4)] _
  refine T_goto dX6_init_54 ?_
  refine T_iload dX6_init_31 rfl ?_
  refine T_const dX6_init_32 ?_
  refine T_icmp_gt dX6_init_33 (fun z => absurd z (by decide)) (fun _ => ?_)
  refine T_aload dX6_init_36 rfl ?_
  refine T_getr (b := 24) dX6_init_37 lfX6_11 rfl rfl (Nat.le_of_ble_eq_true rfl) rfl ?_
  refine T_iload dX6_init_40 rfl ?_
  refine T_new (bc := 3) (bs := 25) dX6_init_41 lnX6_9 (Nat.le_of_ble_eq_true rfl) ?_
  show TK _ _ _ _ _ Sh97 He117 _ _ _ (.ref 43 :: _)
  refine T_dup dX6_init_44 rfl ?_
  refine T_aload dX6_init_45 rfl ?_
  refine T_aload dX6_init_46 rfl ?_
  refine T_callI (mc := 3) (ms := 25) (As := [.ref 1, .ref 10]) (Q2 := fun r S h => r = none ∧ S = Sh105 ∧ h = He121) dX6_init_47 liX6_24 rfl rfl (Nat.le_of_ble_eq_true rfl) (Nat.le_of_ble_eq_true rfl) ⟨Nat.le_of_ble_eq_true rfl, Nat.le_of_ble_eq_true rfl⟩ (nX8_init_43 Z _ (Nat.le_of_ble_eq_true rfl)) ?_
  intro r S h qr
  obtain ⟨rfl, rfl, rfl⟩ := qr
  show TK _ _ _ 0 0 _ _ _ _ _ _
  refine T_aast (k := 0) (ci := 8) dX6_init_50 rfl (by decide) (Nat.le_of_ble_eq_true rfl) (Nat.le_of_ble_eq_true rfl) rfl (by decide) rfl (vp_in_nI (N := 5) (by decide) (by decide)) ?_
  show TK _ _ _ _ _ Sh106 He121 _ _ _ _
  refine T_iinc dX6_init_51 rfl ?_
  show TK _ _ _ _ _ _ _ _ _ [.ref 23, .ref 1, .ref 10, .int (nI 5)] _
  refine T_goto dX6_init_54 ?_
  refine T_iload dX6_init_31 rfl ?_
  refine T_const dX6_init_32 ?_
  refine T_icmp_gt dX6_init_33 (fun _ => ?_) (fun z => absurd (by decide) z)
  exact T_vret dX6_init_57 ⟨⟨rfl, rfl, rfl⟩, rfl⟩
set_option maxRecDepth 20000 in
theorem nX2_init_47 (Z : aZ) (d : Nat) (hd : 0 ≤ d) : CM Z mX2_init d 0 0 [.ref 47, .ref 1] Sh108 He122 (fun r S h => r = none ∧ S = Sh109 ∧ h = He122) := by
  refine CM.of mokX2_init (Nat.le_of_ble_eq_true rfl) (TJ.mono (d := 0) ?_ hd (fun _ _ _ q => q))
  show TK _ _ _ _ _ _ _ _ _ [.ref 47, .ref 1] _
  refine T_aload dX2_init_0 rfl ?_
  refine T_objInit dX2_init_1 loX2_3 (Nat.le_of_ble_eq_true rfl) ?_
  refine T_aload dX2_init_4 rfl ?_
  refine T_aload dX2_init_5 rfl ?_
  refine T_putF dX2_init_6 lfX2_9 rfl rfl ⟨rfl, rfl⟩ rfl (Nat.le_of_ble_eq_true rfl) ?_
  show TK _ _ _ _ _ Sh109 He122 _ _ _ _
  exact T_vret dX2_init_9 ⟨⟨rfl, rfl, rfl⟩, rfl⟩
set_option maxRecDepth 20000 in
theorem nX4_init_48 (Z : aZ) (d : Nat) (hd : 0 ≤ d) : CM Z mX4_init d 3 1064 [.ref 48] Sh111 He123 (fun r S h => r = none ∧ S = Sh117 ∧ h = He126) := by
  refine CM.of mokX4_init (Nat.le_of_ble_eq_true rfl) (TJ.mono (d := 0) ?_ hd (fun _ _ _ q => q))
  show TK _ _ _ _ _ _ _ _ _ [.ref 48] _
  refine T_aload dX4_init_0 rfl ?_
  refine T_objInit dX4_init_1 loX4_3 (Nat.le_of_ble_eq_true rfl) ?_
  refine T_aload dX4_init_4 rfl ?_
  refine T_const dX4_init_5 ?_
  refine T_newa (bc := 2) (bs := 1044) (N := 20) (k := 20) dX4_init_7 (Or.inl ⟨rfl, rfl⟩) rfl (by decide) arrW (Nat.le_of_ble_eq_true rfl) ?_
  show TK _ _ _ _ _ Sh112 He124 _ _ _ (.ref 49 :: _)
  refine T_putF dX4_init_9 lfX4_11 rfl rfl ⟨rfl, rfl⟩ rfl (Nat.le_of_ble_eq_true rfl) ?_
  show TK _ _ _ _ _ Sh113 He124 _ _ _ _
  refine T_aload dX4_init_12 rfl ?_
  refine T_const dX4_init_13 ?_
  refine T_newa (bc := 1) (bs := 1024) (N := 20) (k := 20) dX4_init_15 (Or.inl ⟨rfl, rfl⟩) rfl (by decide) arrW (Nat.le_of_ble_eq_true rfl) ?_
  show TK _ _ _ _ _ Sh114 He125 _ _ _ (.ref 50 :: _)
  refine T_putF dX4_init_17 lfX4_15 rfl rfl ⟨rfl, rfl⟩ rfl (Nat.le_of_ble_eq_true rfl) ?_
  show TK _ _ _ _ _ Sh115 He125 _ _ _ _
  refine T_aload dX4_init_20 rfl ?_
  refine T_const dX4_init_21 ?_
  refine T_newa (bc := 0) (bs := 0) (N := 1024) (k := 20) dX4_init_24 (Or.inl ⟨rfl, rfl⟩) rfl (by decide) arrW (Nat.le_of_ble_eq_true rfl) ?_
  show TK _ _ _ _ _ Sh116 He126 _ _ _ (.ref 51 :: _)
  refine T_putF dX4_init_26 lfX4_18 rfl rfl ⟨rfl, rfl⟩ rfl (Nat.le_of_ble_eq_true rfl) ?_
  show TK _ _ _ _ _ Sh117 He126 _ _ _ _
  exact T_vret dX4_init_29 ⟨⟨rfl, rfl, rfl⟩, rfl⟩
set_option maxRecDepth 20000 in
theorem nX1_init_52 (Z : aZ) (d : Nat) (hd : 0 ≤ d) : CM Z mX1_init d 4 160 [.ref 52] Sh119 He127 (fun r S h => r = none ∧ S = Sh127 ∧ h = He131) := by
  refine CM.of mokX1_init (Nat.le_of_ble_eq_true rfl) (TJ.mono (d := 0) ?_ hd (fun _ _ _ q => q))
  show TK _ _ _ _ _ _ _ _ _ [.ref 52] _
  refine T_aload dX1_init_0 rfl ?_
  refine T_objInit dX1_init_1 loX1_1 (Nat.le_of_ble_eq_true rfl) ?_
  refine T_aload dX1_init_4 rfl ?_
  refine T_const dX1_init_5 ?_
  refine T_newa (bc := 3) (bs := 120) (N := 40) (k := 20) dX1_init_7 (Or.inl ⟨rfl, rfl⟩) rfl (by decide) arrW (Nat.le_of_ble_eq_true rfl) ?_
  show TK _ _ _ _ _ Sh120 He128 _ _ _ (.ref 53 :: _)
  refine T_putF dX1_init_9 lfX1_9 rfl rfl ⟨rfl, rfl⟩ rfl (Nat.le_of_ble_eq_true rfl) ?_
  show TK _ _ _ _ _ Sh121 He128 _ _ _ _
  refine T_aload dX1_init_12 rfl ?_
  refine T_const dX1_init_13 ?_
  refine T_newa (bc := 2) (bs := 80) (N := 40) (k := 20) dX1_init_15 (Or.inl ⟨rfl, rfl⟩) rfl (by decide) arrW (Nat.le_of_ble_eq_true rfl) ?_
  show TK _ _ _ _ _ Sh122 He129 _ _ _ (.ref 54 :: _)
  refine T_putF dX1_init_17 lfX1_13 rfl rfl ⟨rfl, rfl⟩ rfl (Nat.le_of_ble_eq_true rfl) ?_
  show TK _ _ _ _ _ Sh123 He129 _ _ _ _
  refine T_aload dX1_init_20 rfl ?_
  refine T_const dX1_init_21 ?_
  refine T_newa (bc := 1) (bs := 40) (N := 40) (k := 20) dX1_init_23 (Or.inl ⟨rfl, rfl⟩) rfl (by decide) arrW (Nat.le_of_ble_eq_true rfl) ?_
  show TK _ _ _ _ _ Sh124 He130 _ _ _ (.ref 55 :: _)
  refine T_putF dX1_init_25 lfX1_16 rfl rfl ⟨rfl, rfl⟩ rfl (Nat.le_of_ble_eq_true rfl) ?_
  show TK _ _ _ _ _ Sh125 He130 _ _ _ _
  refine T_aload dX1_init_28 rfl ?_
  refine T_const dX1_init_29 ?_
  refine T_newa (bc := 0) (bs := 0) (N := 40) (k := 20) dX1_init_31 (Or.inl ⟨rfl, rfl⟩) rfl (by decide) arrW (Nat.le_of_ble_eq_true rfl) ?_
  show TK _ _ _ _ _ Sh126 He131 _ _ _ (.ref 56 :: _)
  refine T_putF dX1_init_33 lfX1_19 rfl rfl ⟨rfl, rfl⟩ rfl (Nat.le_of_ble_eq_true rfl) ?_
  show TK _ _ _ _ _ Sh127 He131 _ _ _ _
  exact T_vret dX1_init_36 ⟨⟨rfl, rfl, rfl⟩, rfl⟩
set_option maxRecDepth 20000 in
theorem nX0_init_57 (Z : aZ) (d : Nat) (hd : 0 ≤ d) : CM Z mX0_init d 2 74 [.ref 57] Sh129 He132 (fun r S h => r = none ∧ S = Sh133 ∧ h = He134) := by
  refine CM.of mokX0_init (Nat.le_of_ble_eq_true rfl) (TJ.mono (d := 0) ?_ hd (fun _ _ _ q => q))
  show TK _ _ _ _ _ _ _ _ _ [.ref 57] _
  refine T_aload dX0_init_0 rfl ?_
  refine T_objInit dX0_init_1 loX0_1 (Nat.le_of_ble_eq_true rfl) ?_
  refine T_aload dX0_init_4 rfl ?_
  refine T_const dX0_init_5 ?_
  refine T_newa (bc := 1) (bs := 24) (N := 50) (k := 20) dX0_init_7 (Or.inl ⟨rfl, rfl⟩) rfl (by decide) arrW (Nat.le_of_ble_eq_true rfl) ?_
  show TK _ _ _ _ _ Sh130 He133 _ _ _ (.ref 58 :: _)
  refine T_putF dX0_init_9 lfX0_9 rfl rfl ⟨rfl, rfl⟩ rfl (Nat.le_of_ble_eq_true rfl) ?_
  show TK _ _ _ _ _ Sh131 He133 _ _ _ _
  refine T_aload dX0_init_12 rfl ?_
  refine T_const dX0_init_13 ?_
  refine T_newa (bc := 0) (bs := 0) (N := 24) (k := 20) dX0_init_15 (Or.inl ⟨rfl, rfl⟩) rfl (by decide) arrW (Nat.le_of_ble_eq_true rfl) ?_
  show TK _ _ _ _ _ Sh132 He134 _ _ _ (.ref 59 :: _)
  refine T_putF dX0_init_17 lfX0_13 rfl rfl ⟨rfl, rfl⟩ rfl (Nat.le_of_ble_eq_true rfl) ?_
  show TK _ _ _ _ _ Sh133 He134 _ _ _ _
  exact T_vret dX0_init_20 ⟨⟨rfl, rfl, rfl⟩, rfl⟩
set_option maxRecDepth 20000 in
theorem nX7_init_61 (Z : aZ) (d : Nat) (hd : 0 ≤ d) : CM Z mX7_init d 1 60 [.ref 61] Sh137 He136 (fun r S h => r = none ∧ S = Sh139 ∧ h = He139) := by
  refine CM.of mokX7_init (Nat.le_of_ble_eq_true rfl) (TJ.mono (d := 0) ?_ hd (fun _ _ _ q => q))
  show TK _ _ _ _ _ _ _ _ _ [.ref 61] _
  refine T_aload dX7_init_0 rfl ?_
  refine T_objInit dX7_init_1 loX7_1 (Nat.le_of_ble_eq_true rfl) ?_
  refine T_aload dX7_init_4 rfl ?_
  refine T_const dX7_init_5 ?_
  refine T_newa (bc := 0) (bs := 0) (N := 60) (k := 21) dX7_init_7 (Or.inr ⟨rfl, rfl⟩) rfl (by decide) arrW (Nat.le_of_ble_eq_true rfl) ?_
  show TK _ _ _ _ _ Sh138 He137 _ _ _ (.ref 62 :: _)
  refine T_putF dX7_init_9 lfX7_9 rfl rfl ⟨rfl, rfl⟩ rfl (Nat.le_of_ble_eq_true rfl) ?_
  show TK _ _ _ _ _ Sh139 He137 _ _ _ _
  refine T_aload dX7_init_12 rfl ?_
  refine T_const dX7_init_13 ?_
  refine T_putf dX7_init_14 lfX7_13 rfl rfl rfl (Nat.le_of_ble_eq_true rfl) ⟨rfl, rfl⟩ ?_
  show TK _ _ _ _ _ Sh139 He138 _ _ _ _
  refine T_aload dX7_init_17 rfl ?_
  refine T_const dX7_init_18 ?_
  refine T_putf dX7_init_19 lfX7_17 rfl rfl rfl (Nat.le_of_ble_eq_true rfl) ⟨rfl, rfl⟩ ?_
  show TK _ _ _ _ _ Sh139 He139 _ _ _ _
  exact T_vret dX7_init_22 ⟨⟨rfl, rfl, rfl⟩, rfl⟩
set_option maxRecDepth 20000 in
theorem nX7_init_63 (Z : aZ) (d : Nat) (hd : 0 ≤ d) : CM Z mX7_init d 1 60 [.ref 63] Sh141 He140 (fun r S h => r = none ∧ S = Sh143 ∧ h = He143) := by
  refine CM.of mokX7_init (Nat.le_of_ble_eq_true rfl) (TJ.mono (d := 0) ?_ hd (fun _ _ _ q => q))
  show TK _ _ _ _ _ _ _ _ _ [.ref 63] _
  refine T_aload dX7_init_0 rfl ?_
  refine T_objInit dX7_init_1 loX7_1 (Nat.le_of_ble_eq_true rfl) ?_
  refine T_aload dX7_init_4 rfl ?_
  refine T_const dX7_init_5 ?_
  refine T_newa (bc := 0) (bs := 0) (N := 60) (k := 21) dX7_init_7 (Or.inr ⟨rfl, rfl⟩) rfl (by decide) arrW (Nat.le_of_ble_eq_true rfl) ?_
  show TK _ _ _ _ _ Sh142 He141 _ _ _ (.ref 64 :: _)
  refine T_putF dX7_init_9 lfX7_9 rfl rfl ⟨rfl, rfl⟩ rfl (Nat.le_of_ble_eq_true rfl) ?_
  show TK _ _ _ _ _ Sh143 He141 _ _ _ _
  refine T_aload dX7_init_12 rfl ?_
  refine T_const dX7_init_13 ?_
  refine T_putf dX7_init_14 lfX7_13 rfl rfl rfl (Nat.le_of_ble_eq_true rfl) ⟨rfl, rfl⟩ ?_
  show TK _ _ _ _ _ Sh143 He142 _ _ _ _
  refine T_aload dX7_init_17 rfl ?_
  refine T_const dX7_init_18 ?_
  refine T_putf dX7_init_19 lfX7_17 rfl rfl rfl (Nat.le_of_ble_eq_true rfl) ⟨rfl, rfl⟩ ?_
  show TK _ _ _ _ _ Sh143 He143 _ _ _ _
  exact T_vret dX7_init_22 ⟨⟨rfl, rfl, rfl⟩, rfl⟩
set_option maxRecDepth 20000 in
theorem nX7_init_65 (Z : aZ) (d : Nat) (hd : 0 ≤ d) : CM Z mX7_init d 1 60 [.ref 65] Sh145 He144 (fun r S h => r = none ∧ S = Sh147 ∧ h = He147) := by
  refine CM.of mokX7_init (Nat.le_of_ble_eq_true rfl) (TJ.mono (d := 0) ?_ hd (fun _ _ _ q => q))
  show TK _ _ _ _ _ _ _ _ _ [.ref 65] _
  refine T_aload dX7_init_0 rfl ?_
  refine T_objInit dX7_init_1 loX7_1 (Nat.le_of_ble_eq_true rfl) ?_
  refine T_aload dX7_init_4 rfl ?_
  refine T_const dX7_init_5 ?_
  refine T_newa (bc := 0) (bs := 0) (N := 60) (k := 21) dX7_init_7 (Or.inr ⟨rfl, rfl⟩) rfl (by decide) arrW (Nat.le_of_ble_eq_true rfl) ?_
  show TK _ _ _ _ _ Sh146 He145 _ _ _ (.ref 66 :: _)
  refine T_putF dX7_init_9 lfX7_9 rfl rfl ⟨rfl, rfl⟩ rfl (Nat.le_of_ble_eq_true rfl) ?_
  show TK _ _ _ _ _ Sh147 He145 _ _ _ _
  refine T_aload dX7_init_12 rfl ?_
  refine T_const dX7_init_13 ?_
  refine T_putf dX7_init_14 lfX7_13 rfl rfl rfl (Nat.le_of_ble_eq_true rfl) ⟨rfl, rfl⟩ ?_
  show TK _ _ _ _ _ Sh147 He146 _ _ _ _
  refine T_aload dX7_init_17 rfl ?_
  refine T_const dX7_init_18 ?_
  refine T_putf dX7_init_19 lfX7_17 rfl rfl rfl (Nat.le_of_ble_eq_true rfl) ⟨rfl, rfl⟩ ?_
  show TK _ _ _ _ _ Sh147 He147 _ _ _ _
  exact T_vret dX7_init_22 ⟨⟨rfl, rfl, rfl⟩, rfl⟩
set_option maxRecDepth 20000 in
theorem nX7_init_67 (Z : aZ) (d : Nat) (hd : 0 ≤ d) : CM Z mX7_init d 1 60 [.ref 67] Sh149 He148 (fun r S h => r = none ∧ S = Sh151 ∧ h = He151) := by
  refine CM.of mokX7_init (Nat.le_of_ble_eq_true rfl) (TJ.mono (d := 0) ?_ hd (fun _ _ _ q => q))
  show TK _ _ _ _ _ _ _ _ _ [.ref 67] _
  refine T_aload dX7_init_0 rfl ?_
  refine T_objInit dX7_init_1 loX7_1 (Nat.le_of_ble_eq_true rfl) ?_
  refine T_aload dX7_init_4 rfl ?_
  refine T_const dX7_init_5 ?_
  refine T_newa (bc := 0) (bs := 0) (N := 60) (k := 21) dX7_init_7 (Or.inr ⟨rfl, rfl⟩) rfl (by decide) arrW (Nat.le_of_ble_eq_true rfl) ?_
  show TK _ _ _ _ _ Sh150 He149 _ _ _ (.ref 68 :: _)
  refine T_putF dX7_init_9 lfX7_9 rfl rfl ⟨rfl, rfl⟩ rfl (Nat.le_of_ble_eq_true rfl) ?_
  show TK _ _ _ _ _ Sh151 He149 _ _ _ _
  refine T_aload dX7_init_12 rfl ?_
  refine T_const dX7_init_13 ?_
  refine T_putf dX7_init_14 lfX7_13 rfl rfl rfl (Nat.le_of_ble_eq_true rfl) ⟨rfl, rfl⟩ ?_
  show TK _ _ _ _ _ Sh151 He150 _ _ _ _
  refine T_aload dX7_init_17 rfl ?_
  refine T_const dX7_init_18 ?_
  refine T_putf dX7_init_19 lfX7_17 rfl rfl rfl (Nat.le_of_ble_eq_true rfl) ⟨rfl, rfl⟩ ?_
  show TK _ _ _ _ _ Sh151 He151 _ _ _ _
  exact T_vret dX7_init_22 ⟨⟨rfl, rfl, rfl⟩, rfl⟩
set_option maxRecDepth 20000 in
theorem nX7_init_69 (Z : aZ) (d : Nat) (hd : 0 ≤ d) : CM Z mX7_init d 1 60 [.ref 69] Sh153 He152 (fun r S h => r = none ∧ S = Sh155 ∧ h = He155) := by
  refine CM.of mokX7_init (Nat.le_of_ble_eq_true rfl) (TJ.mono (d := 0) ?_ hd (fun _ _ _ q => q))
  show TK _ _ _ _ _ _ _ _ _ [.ref 69] _
  refine T_aload dX7_init_0 rfl ?_
  refine T_objInit dX7_init_1 loX7_1 (Nat.le_of_ble_eq_true rfl) ?_
  refine T_aload dX7_init_4 rfl ?_
  refine T_const dX7_init_5 ?_
  refine T_newa (bc := 0) (bs := 0) (N := 60) (k := 21) dX7_init_7 (Or.inr ⟨rfl, rfl⟩) rfl (by decide) arrW (Nat.le_of_ble_eq_true rfl) ?_
  show TK _ _ _ _ _ Sh154 He153 _ _ _ (.ref 70 :: _)
  refine T_putF dX7_init_9 lfX7_9 rfl rfl ⟨rfl, rfl⟩ rfl (Nat.le_of_ble_eq_true rfl) ?_
  show TK _ _ _ _ _ Sh155 He153 _ _ _ _
  refine T_aload dX7_init_12 rfl ?_
  refine T_const dX7_init_13 ?_
  refine T_putf dX7_init_14 lfX7_13 rfl rfl rfl (Nat.le_of_ble_eq_true rfl) ⟨rfl, rfl⟩ ?_
  show TK _ _ _ _ _ Sh155 He154 _ _ _ _
  refine T_aload dX7_init_17 rfl ?_
  refine T_const dX7_init_18 ?_
  refine T_putf dX7_init_19 lfX7_17 rfl rfl rfl (Nat.le_of_ble_eq_true rfl) ⟨rfl, rfl⟩ ?_
  show TK _ _ _ _ _ Sh155 He155 _ _ _ _
  exact T_vret dX7_init_22 ⟨⟨rfl, rfl, rfl⟩, rfl⟩
set_option maxRecDepth 20000 in
theorem nX7_init_71 (Z : aZ) (d : Nat) (hd : 0 ≤ d) : CM Z mX7_init d 1 60 [.ref 71] Sh157 He156 (fun r S h => r = none ∧ S = Sh159 ∧ h = He159) := by
  refine CM.of mokX7_init (Nat.le_of_ble_eq_true rfl) (TJ.mono (d := 0) ?_ hd (fun _ _ _ q => q))
  show TK _ _ _ _ _ _ _ _ _ [.ref 71] _
  refine T_aload dX7_init_0 rfl ?_
  refine T_objInit dX7_init_1 loX7_1 (Nat.le_of_ble_eq_true rfl) ?_
  refine T_aload dX7_init_4 rfl ?_
  refine T_const dX7_init_5 ?_
  refine T_newa (bc := 0) (bs := 0) (N := 60) (k := 21) dX7_init_7 (Or.inr ⟨rfl, rfl⟩) rfl (by decide) arrW (Nat.le_of_ble_eq_true rfl) ?_
  show TK _ _ _ _ _ Sh158 He157 _ _ _ (.ref 72 :: _)
  refine T_putF dX7_init_9 lfX7_9 rfl rfl ⟨rfl, rfl⟩ rfl (Nat.le_of_ble_eq_true rfl) ?_
  show TK _ _ _ _ _ Sh159 He157 _ _ _ _
  refine T_aload dX7_init_12 rfl ?_
  refine T_const dX7_init_13 ?_
  refine T_putf dX7_init_14 lfX7_13 rfl rfl rfl (Nat.le_of_ble_eq_true rfl) ⟨rfl, rfl⟩ ?_
  show TK _ _ _ _ _ Sh159 He158 _ _ _ _
  refine T_aload dX7_init_17 rfl ?_
  refine T_const dX7_init_18 ?_
  refine T_putf dX7_init_19 lfX7_17 rfl rfl rfl (Nat.le_of_ble_eq_true rfl) ⟨rfl, rfl⟩ ?_
  show TK _ _ _ _ _ Sh159 He159 _ _ _ _
  exact T_vret dX7_init_22 ⟨⟨rfl, rfl, rfl⟩, rfl⟩
set_option maxRecDepth 20000 in
theorem nX10_init (Z : aZ) (d : Nat) (hd : 2 ≤ d) : CM Z mX10_init d 72 3514 [.ref 0] Sh1 He1 (fun r S h => r = none ∧ S = Sh160 ∧ h = He159) := by
  refine CM.of mokX10_init (Nat.le_of_ble_eq_true rfl) (TJ.mono (d := 2) ?_ hd (fun _ _ _ q => q))
  show TK _ _ _ _ _ _ _ _ _ [.ref 0, .null] _
  refine T_aload dX10_init_0 rfl ?_
  refine T_objInit dX10_init_1 loX10_1 (Nat.le_of_ble_eq_true rfl) ?_
  refine T_aload dX10_init_4 rfl ?_
  refine T_new (bc := 71) (bs := 3507) dX10_init_5 lnX10_7 (Nat.le_of_ble_eq_true rfl) ?_
  show TK _ _ _ _ _ Sh2 He2 _ _ _ (.ref 1 :: _)
  refine T_dup dX10_init_8 rfl ?_
  refine T_callI (mc := 4) (ms := 148) (As := []) (Q2 := fun r S h => r = none ∧ S = Sh10 ∧ h = He73) dX10_init_9 liX10_9 rfl rfl (Nat.le_of_ble_eq_true rfl) (Nat.le_of_ble_eq_true rfl) ⟨Nat.le_of_ble_eq_true rfl, Nat.le_of_ble_eq_true rfl⟩ (nX5_init_1 Z _ (Nat.le_of_ble_eq_true rfl)) ?_
  intro r S h qr
  obtain ⟨rfl, rfl, rfl⟩ := qr
  show TK _ _ _ 67 3359 _ _ _ _ _ _
  refine T_putF dX10_init_12 lfX10_10 rfl rfl ⟨rfl, rfl⟩ rfl (Nat.le_of_ble_eq_true rfl) ?_
  show TK _ _ _ _ _ Sh11 He73 _ _ _ _
  refine T_aload dX10_init_15 rfl ?_
  refine T_new (bc := 66) (bs := 3353) dX10_init_16 lnX10_16 (Nat.le_of_ble_eq_true rfl) ?_
  show TK _ _ _ _ _ Sh12 He74 _ _ _ (.ref 6 :: _)
  refine T_dup dX10_init_19 rfl ?_
  refine T_callI (mc := 3) (ms := 376) (As := []) (Q2 := fun r S h => r = none ∧ S = Sh18 ∧ h = He77) dX10_init_20 liX10_18 rfl rfl (Nat.le_of_ble_eq_true rfl) (Nat.le_of_ble_eq_true rfl) ⟨Nat.le_of_ble_eq_true rfl, Nat.le_of_ble_eq_true rfl⟩ (nX9_init_6 Z _ (Nat.le_of_ble_eq_true rfl)) ?_
  intro r S h qr
  obtain ⟨rfl, rfl, rfl⟩ := qr
  show TK _ _ _ 63 2977 _ _ _ _ _ _
  refine T_putF dX10_init_23 lfX10_19 rfl rfl ⟨rfl, rfl⟩ rfl (Nat.le_of_ble_eq_true rfl) ?_
  show TK _ _ _ _ _ Sh19 He77 _ _ _ _
  refine T_aload dX10_init_26 rfl ?_
  refine T_new (bc := 62) (bs := 2972) dX10_init_27 lnX10_23 (Nat.le_of_ble_eq_true rfl) ?_
  show TK _ _ _ _ _ Sh20 He78 _ _ _ (.ref 10 :: _)
  refine T_dup dX10_init_30 rfl ?_
  refine T_callI (mc := 4) (ms := 390) (As := []) (Q2 := fun r S h => r = none ∧ S = Sh28 ∧ h = He82) dX10_init_31 liX10_25 rfl rfl (Nat.le_of_ble_eq_true rfl) (Nat.le_of_ble_eq_true rfl) ⟨Nat.le_of_ble_eq_true rfl, Nat.le_of_ble_eq_true rfl⟩ (nX3_init_10 Z _ (Nat.le_of_ble_eq_true rfl)) ?_
  intro r S h qr
  obtain ⟨rfl, rfl, rfl⟩ := qr
  show TK _ _ _ 58 2582 _ _ _ _ _ _
  refine T_putF dX10_init_34 lfX10_26 rfl rfl ⟨rfl, rfl⟩ rfl (Nat.le_of_ble_eq_true rfl) ?_
  show TK _ _ _ _ _ Sh29 He82 _ _ _ _
  refine T_aload dX10_init_37 rfl ?_
  refine T_new (bc := 57) (bs := 2574) dX10_init_38 lnX10_30 (Nat.le_of_ble_eq_true rfl) ?_
  show TK _ _ _ _ _ Sh30 He83 _ _ _ (.ref 15 :: _)
  refine T_dup dX10_init_41 rfl ?_
  refine T_aload dX10_init_42 rfl ?_
  refine T_getr (b := 1) dX10_init_43 lfX10_10 rfl rfl (Nat.le_of_ble_eq_true rfl) rfl ?_
  refine T_aload dX10_init_46 rfl ?_
  refine T_getr (b := 10) dX10_init_47 lfX10_26 rfl rfl (Nat.le_of_ble_eq_true rfl) rfl ?_
  refine T_callI (mc := 3) (ms := 25) (As := [.ref 1, .ref 10]) (Q2 := fun r S h => r = none ∧ S = Sh38 ∧ h = He87) dX10_init_50 liX10_32 rfl rfl (Nat.le_of_ble_eq_true rfl) (Nat.le_of_ble_eq_true rfl) ⟨Nat.le_of_ble_eq_true rfl, Nat.le_of_ble_eq_true rfl⟩ (nX8_init_15 Z _ (Nat.le_of_ble_eq_true rfl)) ?_
  intro r S h qr
  obtain ⟨rfl, rfl, rfl⟩ := qr
  show TK _ _ _ 54 2549 _ _ _ _ _ _
  refine T_putF dX10_init_53 lfX10_35 rfl rfl ⟨rfl, rfl⟩ rfl (Nat.le_of_ble_eq_true rfl) ?_
  show TK _ _ _ _ _ Sh39 He87 _ _ _ _
  refine T_aload dX10_init_56 rfl ?_
  refine T_new (bc := 53) (bs := 2541) dX10_init_57 lnX10_30 (Nat.le_of_ble_eq_true rfl) ?_
  show TK _ _ _ _ _ Sh40 He88 _ _ _ (.ref 19 :: _)
  refine T_dup dX10_init_60 rfl ?_
  refine T_aload dX10_init_61 rfl ?_
  refine T_getr (b := 1) dX10_init_62 lfX10_10 rfl rfl (Nat.le_of_ble_eq_true rfl) rfl ?_
  refine T_aload dX10_init_65 rfl ?_
  refine T_getr (b := 10) dX10_init_66 lfX10_26 rfl rfl (Nat.le_of_ble_eq_true rfl) rfl ?_
  refine T_callI (mc := 3) (ms := 25) (As := [.ref 1, .ref 10]) (Q2 := fun r S h => r = none ∧ S = Sh48 ∧ h = He92) dX10_init_69 liX10_32 rfl rfl (Nat.le_of_ble_eq_true rfl) (Nat.le_of_ble_eq_true rfl) ⟨Nat.le_of_ble_eq_true rfl, Nat.le_of_ble_eq_true rfl⟩ (nX8_init_19 Z _ (Nat.le_of_ble_eq_true rfl)) ?_
  intro r S h qr
  obtain ⟨rfl, rfl, rfl⟩ := qr
  show TK _ _ _ 50 2516 _ _ _ _ _ _
  refine T_putF dX10_init_72 lfX10_39 rfl rfl ⟨rfl, rfl⟩ rfl (Nat.le_of_ble_eq_true rfl) ?_
  show TK _ _ _ _ _ Sh49 He92 _ _ _ _
  refine T_aload dX10_init_75 rfl ?_
  refine T_new (bc := 49) (bs := 2509) dX10_init_76 lnX10_42 (Nat.le_of_ble_eq_true rfl) ?_
  show TK _ _ _ _ _ Sh50 He93 _ _ _ (.ref 23 :: _)
  refine T_dup dX10_init_79 rfl ?_
  refine T_aload dX10_init_80 rfl ?_
  refine T_getr (b := 1) dX10_init_81 lfX10_10 rfl rfl (Nat.le_of_ble_eq_true rfl) rfl ?_
  refine T_aload dX10_init_84 rfl ?_
  refine T_getr (b := 10) dX10_init_85 lfX10_26 rfl rfl (Nat.le_of_ble_eq_true rfl) rfl ?_
  refine T_callI (mc := 23) (ms := 805) (As := [.ref 1, .ref 10]) (Q2 := fun r S h => r = none ∧ S = Sh106 ∧ h = He121) dX10_init_88 liX10_44 rfl rfl (Nat.le_of_ble_eq_true rfl) (Nat.le_of_ble_eq_true rfl) ⟨Nat.le_of_ble_eq_true rfl, Nat.le_of_ble_eq_true rfl⟩ (nX6_init_23 Z _ (Nat.le_of_ble_eq_true rfl)) ?_
  intro r S h qr
  obtain ⟨rfl, rfl, rfl⟩ := qr
  show TK _ _ _ 26 1704 _ _ _ _ _ _
  refine T_putF dX10_init_91 lfX10_45 rfl rfl ⟨rfl, rfl⟩ rfl (Nat.le_of_ble_eq_true rfl) ?_
  show TK _ _ _ _ _ Sh107 He121 _ _ _ _
  refine T_aload dX10_init_94 rfl ?_
  refine T_new (bc := 25) (bs := 1703) dX10_init_95 lnX10_49 (Nat.le_of_ble_eq_true rfl) ?_
  show TK _ _ _ _ _ Sh108 He122 _ _ _ (.ref 47 :: _)
  refine T_dup dX10_init_98 rfl ?_
  refine T_aload dX10_init_99 rfl ?_
  refine T_getr (b := 1) dX10_init_100 lfX10_10 rfl rfl (Nat.le_of_ble_eq_true rfl) rfl ?_
  refine T_callI (mc := 0) (ms := 0) (As := [.ref 1]) (Q2 := fun r S h => r = none ∧ S = Sh109 ∧ h = He122) dX10_init_103 liX10_51 rfl rfl (Nat.le_of_ble_eq_true rfl) (Nat.le_of_ble_eq_true rfl) ⟨Nat.le_of_ble_eq_true rfl, Nat.le_of_ble_eq_true rfl⟩ (nX2_init_47 Z _ (Nat.le_of_ble_eq_true rfl)) ?_
  intro r S h qr
  obtain ⟨rfl, rfl, rfl⟩ := qr
  show TK _ _ _ 25 1703 _ _ _ _ _ _
  refine T_putF dX10_init_106 lfX10_54 rfl rfl ⟨rfl, rfl⟩ rfl (Nat.le_of_ble_eq_true rfl) ?_
  show TK _ _ _ _ _ Sh110 He122 _ _ _ _
  refine T_aload dX10_init_109 rfl ?_
  refine T_new (bc := 24) (bs := 1698) dX10_init_110 lnX10_58 (Nat.le_of_ble_eq_true rfl) ?_
  show TK _ _ _ _ _ Sh111 He123 _ _ _ (.ref 48 :: _)
  refine T_dup dX10_init_113 rfl ?_
  refine T_callI (mc := 3) (ms := 1064) (As := []) (Q2 := fun r S h => r = none ∧ S = Sh117 ∧ h = He126) dX10_init_114 liX10_60 rfl rfl (Nat.le_of_ble_eq_true rfl) (Nat.le_of_ble_eq_true rfl) ⟨Nat.le_of_ble_eq_true rfl, Nat.le_of_ble_eq_true rfl⟩ (nX4_init_48 Z _ (Nat.le_of_ble_eq_true rfl)) ?_
  intro r S h qr
  obtain ⟨rfl, rfl, rfl⟩ := qr
  show TK _ _ _ 21 634 _ _ _ _ _ _
  refine T_putF dX10_init_117 lfX10_61 rfl rfl ⟨rfl, rfl⟩ rfl (Nat.le_of_ble_eq_true rfl) ?_
  show TK _ _ _ _ _ Sh118 He126 _ _ _ _
  refine T_aload dX10_init_120 rfl ?_
  refine T_new (bc := 20) (bs := 628) dX10_init_121 lnX10_65 (Nat.le_of_ble_eq_true rfl) ?_
  show TK _ _ _ _ _ Sh119 He127 _ _ _ (.ref 52 :: _)
  refine T_dup dX10_init_124 rfl ?_
  refine T_callI (mc := 4) (ms := 160) (As := []) (Q2 := fun r S h => r = none ∧ S = Sh127 ∧ h = He131) dX10_init_125 liX10_67 rfl rfl (Nat.le_of_ble_eq_true rfl) (Nat.le_of_ble_eq_true rfl) ⟨Nat.le_of_ble_eq_true rfl, Nat.le_of_ble_eq_true rfl⟩ (nX1_init_52 Z _ (Nat.le_of_ble_eq_true rfl)) ?_
  intro r S h qr
  obtain ⟨rfl, rfl, rfl⟩ := qr
  show TK _ _ _ 16 468 _ _ _ _ _ _
  refine T_putF dX10_init_128 lfX10_68 rfl rfl ⟨rfl, rfl⟩ rfl (Nat.le_of_ble_eq_true rfl) ?_
  show TK _ _ _ _ _ Sh128 He131 _ _ _ _
  refine T_aload dX10_init_131 rfl ?_
  refine T_new (bc := 15) (bs := 464) dX10_init_132 lnX10_72 (Nat.le_of_ble_eq_true rfl) ?_
  show TK _ _ _ _ _ Sh129 He132 _ _ _ (.ref 57 :: _)
  refine T_dup dX10_init_135 rfl ?_
  refine T_callI (mc := 2) (ms := 74) (As := []) (Q2 := fun r S h => r = none ∧ S = Sh133 ∧ h = He134) dX10_init_136 liX10_74 rfl rfl (Nat.le_of_ble_eq_true rfl) (Nat.le_of_ble_eq_true rfl) ⟨Nat.le_of_ble_eq_true rfl, Nat.le_of_ble_eq_true rfl⟩ (nX0_init_57 Z _ (Nat.le_of_ble_eq_true rfl)) ?_
  intro r S h qr
  obtain ⟨rfl, rfl, rfl⟩ := qr
  show TK _ _ _ 13 390 _ _ _ _ _ _
  refine T_putF dX10_init_139 lfX10_75 rfl rfl ⟨rfl, rfl⟩ rfl (Nat.le_of_ble_eq_true rfl) ?_
  show TK _ _ _ _ _ Sh134 He134 _ _ _ _
  refine T_aload dX10_init_142 rfl ?_
  refine T_const dX10_init_143 ?_
  refine T_newq (bc := 12) (bs := 384) (N := 6) (k := 1) dX10_init_145 (by decide) lqX10_79 rfl (by decide) (Nat.le_of_ble_eq_true rfl) ?_
  show TK _ _ _ _ _ Sh135 He135 _ _ _ (.ref 60 :: _)
  refine T_putF dX10_init_148 lfX10_81 rfl rfl ⟨rfl, rfl⟩ rfl (Nat.le_of_ble_eq_true rfl) ?_
  show TK _ _ _ _ _ Sh136 He135 _ _ _ _
  refine T_const dX10_init_151 ?_
  refine T_istore dX10_init_152 ?_
  show TK _ _ _ _ _ _ _ _ _ [.ref 0, .int (nI 0)] _
  refine T_iload dX10_init_153 rfl ?_
  refine T_const dX10_init_154 ?_
  refine T_icmp_ge dX10_init_156 (fun z => absurd z (by decide)) (fun _ => ?_)
  refine T_aload dX10_init_159 rfl ?_
  refine T_getr (b := 60) dX10_init_160 lfX10_81 rfl rfl (Nat.le_of_ble_eq_true rfl) rfl ?_
  refine T_iload dX10_init_163 rfl ?_
  refine T_new (bc := 11) (bs := 380) dX10_init_164 lnX10_79 (Nat.le_of_ble_eq_true rfl) ?_
  show TK _ _ _ _ _ Sh137 He136 _ _ _ (.ref 61 :: _)
  refine T_dup dX10_init_167 rfl ?_
  refine T_callI (mc := 1) (ms := 60) (As := []) (Q2 := fun r S h => r = none ∧ S = Sh139 ∧ h = He139) dX10_init_168 liX10_85 rfl rfl (Nat.le_of_ble_eq_true rfl) (Nat.le_of_ble_eq_true rfl) ⟨Nat.le_of_ble_eq_true rfl, Nat.le_of_ble_eq_true rfl⟩ (nX7_init_61 Z _ (Nat.le_of_ble_eq_true rfl)) ?_
  intro r S h qr
  obtain ⟨rfl, rfl, rfl⟩ := qr
  show TK _ _ _ 10 320 _ _ _ _ _ _
  refine T_aast (k := 1) (ci := 7) dX10_init_171 rfl (by decide) (Nat.le_of_ble_eq_true rfl) (Nat.le_of_ble_eq_true rfl) rfl (by decide) rfl (vp_in_nI (N := 6) (by decide) (by decide)) ?_
  show TK _ _ _ _ _ Sh140 He139 _ _ _ _
  refine T_iinc dX10_init_172 rfl ?_
  show TK _ _ _ _ _ _ _ _ _ [.ref 0, .int (nI 1)] _
  refine T_goto dX10_init_175 ?_
  refine T_iload dX10_init_153 rfl ?_
  refine T_const dX10_init_154 ?_
  refine T_icmp_ge dX10_init_156 (fun z => absurd z (by decide)) (fun _ => ?_)
  refine T_aload dX10_init_159 rfl ?_
  refine T_getr (b := 60) dX10_init_160 lfX10_81 rfl rfl (Nat.le_of_ble_eq_true rfl) rfl ?_
  refine T_iload dX10_init_163 rfl ?_
  refine T_new (bc := 9) (bs := 316) dX10_init_164 lnX10_79 (Nat.le_of_ble_eq_true rfl) ?_
  show TK _ _ _ _ _ Sh141 He140 _ _ _ (.ref 63 :: _)
  refine T_dup dX10_init_167 rfl ?_
  refine T_callI (mc := 1) (ms := 60) (As := []) (Q2 := fun r S h => r = none ∧ S = Sh143 ∧ h = He143) dX10_init_168 liX10_85 rfl rfl (Nat.le_of_ble_eq_true rfl) (Nat.le_of_ble_eq_true rfl) ⟨Nat.le_of_ble_eq_true rfl, Nat.le_of_ble_eq_true rfl⟩ (nX7_init_63 Z _ (Nat.le_of_ble_eq_true rfl)) ?_
  intro r S h qr
  obtain ⟨rfl, rfl, rfl⟩ := qr
  show TK _ _ _ 8 256 _ _ _ _ _ _
  refine T_aast (k := 1) (ci := 7) dX10_init_171 rfl (by decide) (Nat.le_of_ble_eq_true rfl) (Nat.le_of_ble_eq_true rfl) rfl (by decide) rfl (vp_in_nI (N := 6) (by decide) (by decide)) ?_
  show TK _ _ _ _ _ Sh144 He143 _ _ _ _
  refine T_iinc dX10_init_172 rfl ?_
  show TK _ _ _ _ _ _ _ _ _ [.ref 0, .int (nI 2)] _
  refine T_goto dX10_init_175 ?_
  refine T_iload dX10_init_153 rfl ?_
  refine T_const dX10_init_154 ?_
  refine T_icmp_ge dX10_init_156 (fun z => absurd z (by decide)) (fun _ => ?_)
  refine T_aload dX10_init_159 rfl ?_
  refine T_getr (b := 60) dX10_init_160 lfX10_81 rfl rfl (Nat.le_of_ble_eq_true rfl) rfl ?_
  refine T_iload dX10_init_163 rfl ?_
  refine T_new (bc := 7) (bs := 252) dX10_init_164 lnX10_79 (Nat.le_of_ble_eq_true rfl) ?_
  show TK _ _ _ _ _ Sh145 He144 _ _ _ (.ref 65 :: _)
  refine T_dup dX10_init_167 rfl ?_
  refine T_callI (mc := 1) (ms := 60) (As := []) (Q2 := fun r S h => r = none ∧ S = Sh147 ∧ h = He147) dX10_init_168 liX10_85 rfl rfl (Nat.le_of_ble_eq_true rfl) (Nat.le_of_ble_eq_true rfl) ⟨Nat.le_of_ble_eq_true rfl, Nat.le_of_ble_eq_true rfl⟩ (nX7_init_65 Z _ (Nat.le_of_ble_eq_true rfl)) ?_
  intro r S h qr
  obtain ⟨rfl, rfl, rfl⟩ := qr
  show TK _ _ _ 6 192 _ _ _ _ _ _
  refine T_aast (k := 1) (ci := 7) dX10_init_171 rfl (by decide) (Nat.le_of_ble_eq_true rfl) (Nat.le_of_ble_eq_true rfl) rfl (by decide) rfl (vp_in_nI (N := 6) (by decide) (by decide)) ?_
  show TK _ _ _ _ _ Sh148 He147 _ _ _ _
  refine T_iinc dX10_init_172 rfl ?_
  show TK _ _ _ _ _ _ _ _ _ [.ref 0, .int (nI 3)] _
  refine T_goto dX10_init_175 ?_
  refine T_iload dX10_init_153 rfl ?_
  refine T_const dX10_init_154 ?_
  refine T_icmp_ge dX10_init_156 (fun z => absurd z (by decide)) (fun _ => ?_)
  refine T_aload dX10_init_159 rfl ?_
  refine T_getr (b := 60) dX10_init_160 lfX10_81 rfl rfl (Nat.le_of_ble_eq_true rfl) rfl ?_
  refine T_iload dX10_init_163 rfl ?_
  refine T_new (bc := 5) (bs := 188) dX10_init_164 lnX10_79 (Nat.le_of_ble_eq_true rfl) ?_
  show TK _ _ _ _ _ Sh149 He148 _ _ _ (.ref 67 :: _)
  refine T_dup dX10_init_167 rfl ?_
  refine T_callI (mc := 1) (ms := 60) (As := []) (Q2 := fun r S h => r = none ∧ S = Sh151 ∧ h = He151) dX10_init_168 liX10_85 rfl rfl (Nat.le_of_ble_eq_true rfl) (Nat.le_of_ble_eq_true rfl) ⟨Nat.le_of_ble_eq_true rfl, Nat.le_of_ble_eq_true rfl⟩ (nX7_init_67 Z _ (Nat.le_of_ble_eq_true rfl)) ?_
  intro r S h qr
  obtain ⟨rfl, rfl, rfl⟩ := qr
  show TK _ _ _ 4 128 _ _ _ _ _ _
  refine T_aast (k := 1) (ci := 7) dX10_init_171 rfl (by decide) (Nat.le_of_ble_eq_true rfl) (Nat.le_of_ble_eq_true rfl) rfl (by decide) rfl (vp_in_nI (N := 6) (by decide) (by decide)) ?_
  show TK _ _ _ _ _ Sh152 He151 _ _ _ _
  refine T_iinc dX10_init_172 rfl ?_
  show TK _ _ _ _ _ _ _ _ _ [.ref 0, .int (nI 4)] _
  refine T_goto dX10_init_175 ?_
  refine T_iload dX10_init_153 rfl ?_
  refine T_const dX10_init_154 ?_
  refine T_icmp_ge dX10_init_156 (fun z => absurd z (by decide)) (fun _ => ?_)
  refine T_aload dX10_init_159 rfl ?_
  refine T_getr (b := 60) dX10_init_160 lfX10_81 rfl rfl (Nat.le_of_ble_eq_true rfl) rfl ?_
  refine T_iload dX10_init_163 rfl ?_
  refine T_new (bc := 3) (bs := 124) dX10_init_164 lnX10_79 (Nat.le_of_ble_eq_true rfl) ?_
  show TK _ _ _ _ _ Sh153 He152 _ _ _ (.ref 69 :: _)
  refine T_dup dX10_init_167 rfl ?_
  refine T_callI (mc := 1) (ms := 60) (As := []) (Q2 := fun r S h => r = none ∧ S = Sh155 ∧ h = He155) dX10_init_168 liX10_85 rfl rfl (Nat.le_of_ble_eq_true rfl) (Nat.le_of_ble_eq_true rfl) ⟨Nat.le_of_ble_eq_true rfl, Nat.le_of_ble_eq_true rfl⟩ (nX7_init_69 Z _ (Nat.le_of_ble_eq_true rfl)) ?_
  intro r S h qr
  obtain ⟨rfl, rfl, rfl⟩ := qr
  show TK _ _ _ 2 64 _ _ _ _ _ _
  refine T_aast (k := 1) (ci := 7) dX10_init_171 rfl (by decide) (Nat.le_of_ble_eq_true rfl) (Nat.le_of_ble_eq_true rfl) rfl (by decide) rfl (vp_in_nI (N := 6) (by decide) (by decide)) ?_
  show TK _ _ _ _ _ Sh156 He155 _ _ _ _
  refine T_iinc dX10_init_172 rfl ?_
  show TK _ _ _ _ _ _ _ _ _ [.ref 0, .int (nI 5)] _
  refine T_goto dX10_init_175 ?_
  refine T_iload dX10_init_153 rfl ?_
  refine T_const dX10_init_154 ?_
  refine T_icmp_ge dX10_init_156 (fun z => absurd z (by decide)) (fun _ => ?_)
  refine T_aload dX10_init_159 rfl ?_
  refine T_getr (b := 60) dX10_init_160 lfX10_81 rfl rfl (Nat.le_of_ble_eq_true rfl) rfl ?_
  refine T_iload dX10_init_163 rfl ?_
  refine T_new (bc := 1) (bs := 60) dX10_init_164 lnX10_79 (Nat.le_of_ble_eq_true rfl) ?_
  show TK _ _ _ _ _ Sh157 He156 _ _ _ (.ref 71 :: _)
  refine T_dup dX10_init_167 rfl ?_
  refine T_callI (mc := 1) (ms := 60) (As := []) (Q2 := fun r S h => r = none ∧ S = Sh159 ∧ h = He159) dX10_init_168 liX10_85 rfl rfl (Nat.le_of_ble_eq_true rfl) (Nat.le_of_ble_eq_true rfl) ⟨Nat.le_of_ble_eq_true rfl, Nat.le_of_ble_eq_true rfl⟩ (nX7_init_71 Z _ (Nat.le_of_ble_eq_true rfl)) ?_
  intro r S h qr
  obtain ⟨rfl, rfl, rfl⟩ := qr
  show TK _ _ _ 0 0 _ _ _ _ _ _
  refine T_aast (k := 1) (ci := 7) dX10_init_171 rfl (by decide) (Nat.le_of_ble_eq_true rfl) (Nat.le_of_ble_eq_true rfl) rfl (by decide) rfl (vp_in_nI (N := 6) (by decide) (by decide)) ?_
  show TK _ _ _ _ _ Sh160 He159 _ _ _ _
  refine T_iinc dX10_init_172 rfl ?_
  show TK _ _ _ _ _ _ _ _ _ [.ref 0, .int (nI 6)] _
  refine T_goto dX10_init_175 ?_
  refine T_iload dX10_init_153 rfl ?_
  refine T_const dX10_init_154 ?_
  refine T_icmp_ge dX10_init_156 (fun _ => ?_) (fun z => absurd (by decide) z)
  exact T_vret dX10_init_178 ⟨⟨rfl, rfl, rfl⟩, rfl⟩
set_option maxRecDepth 20000 in
theorem nX11_init (Z : aZ) (d : Nat) (hd : 0 ≤ d) : CM Z mX11_init d 24 2488 [.ref 73] Sh161 He160 (fun r S h => r = none ∧ S = Sh209 ∧ h = He259) := by
  refine CM.of mokX11_init (Nat.le_of_ble_eq_true rfl) (TJ.mono (d := 0) ?_ hd (fun _ _ _ q => q))
  show TK _ _ _ _ _ _ _ _ _ [.ref 73, .null] _
  refine T_aload dX11_init_0 rfl ?_
  refine T_objInit dX11_init_1 loX11_3 (Nat.le_of_ble_eq_true rfl) ?_
  refine T_aload dX11_init_4 rfl ?_
  refine T_const dX11_init_5 ?_
  refine T_newa (bc := 23) (bs := 2316) (N := 172) (k := 20) dX11_init_8 (Or.inl ⟨rfl, rfl⟩) rfl (by decide) arrW (Nat.le_of_ble_eq_true rfl) ?_
  show TK _ _ _ _ _ Sh162 He161 _ _ _ (.ref 74 :: _)
  refine T_putF dX11_init_10 lfX11_9 rfl rfl ⟨rfl, rfl⟩ rfl (Nat.le_of_ble_eq_true rfl) ?_
  show TK _ _ _ _ _ Sh163 He161 _ _ _ _
  refine T_aload dX11_init_13 rfl ?_
  refine T_const dX11_init_14 ?_
  refine T_newa (bc := 22) (bs := 2276) (N := 40) (k := 20) dX11_init_16 (Or.inl ⟨rfl, rfl⟩) rfl (by decide) arrW (Nat.le_of_ble_eq_true rfl) ?_
  show TK _ _ _ _ _ Sh164 He162 _ _ _ (.ref 75 :: _)
  refine T_putF dX11_init_18 lfX11_13 rfl rfl ⟨rfl, rfl⟩ rfl (Nat.le_of_ble_eq_true rfl) ?_
  show TK _ _ _ _ _ Sh165 He162 _ _ _ _
  refine T_aload dX11_init_21 rfl ?_
  refine T_const dX11_init_22 ?_
  refine T_newa (bc := 21) (bs := 2236) (N := 40) (k := 20) dX11_init_24 (Or.inl ⟨rfl, rfl⟩) rfl (by decide) arrW (Nat.le_of_ble_eq_true rfl) ?_
  show TK _ _ _ _ _ Sh166 He163 _ _ _ (.ref 76 :: _)
  refine T_putF dX11_init_26 lfX11_16 rfl rfl ⟨rfl, rfl⟩ rfl (Nat.le_of_ble_eq_true rfl) ?_
  show TK _ _ _ _ _ Sh167 He163 _ _ _ _
  refine T_aload dX11_init_29 rfl ?_
  refine T_const dX11_init_30 ?_
  refine T_newa (bc := 20) (bs := 2196) (N := 40) (k := 20) dX11_init_32 (Or.inl ⟨rfl, rfl⟩) rfl (by decide) arrW (Nat.le_of_ble_eq_true rfl) ?_
  show TK _ _ _ _ _ Sh168 He164 _ _ _ (.ref 77 :: _)
  refine T_putF dX11_init_34 lfX11_19 rfl rfl ⟨rfl, rfl⟩ rfl (Nat.le_of_ble_eq_true rfl) ?_
  show TK _ _ _ _ _ Sh169 He164 _ _ _ _
  refine T_aload dX11_init_37 rfl ?_
  refine T_const dX11_init_38 ?_
  refine T_newa (bc := 19) (bs := 2076) (N := 120) (k := 20) dX11_init_40 (Or.inl ⟨rfl, rfl⟩) rfl (by decide) arrW (Nat.le_of_ble_eq_true rfl) ?_
  show TK _ _ _ _ _ Sh170 He165 _ _ _ (.ref 78 :: _)
  refine T_putF dX11_init_42 lfX11_22 rfl rfl ⟨rfl, rfl⟩ rfl (Nat.le_of_ble_eq_true rfl) ?_
  show TK _ _ _ _ _ Sh171 He165 _ _ _ _
  refine T_aload dX11_init_45 rfl ?_
  refine T_const dX11_init_46 ?_
  refine T_newa (bc := 18) (bs := 1956) (N := 120) (k := 20) dX11_init_48 (Or.inl ⟨rfl, rfl⟩) rfl (by decide) arrW (Nat.le_of_ble_eq_true rfl) ?_
  show TK _ _ _ _ _ Sh172 He166 _ _ _ (.ref 79 :: _)
  refine T_putF dX11_init_50 lfX11_25 rfl rfl ⟨rfl, rfl⟩ rfl (Nat.le_of_ble_eq_true rfl) ?_
  show TK _ _ _ _ _ Sh173 He166 _ _ _ _
  refine T_aload dX11_init_53 rfl ?_
  refine T_const dX11_init_54 ?_
  refine T_newa (bc := 17) (bs := 1950) (N := 6) (k := 20) dX11_init_56 (Or.inl ⟨rfl, rfl⟩) rfl (by decide) arrW (Nat.le_of_ble_eq_true rfl) ?_
  show TK _ _ _ _ _ Sh174 He167 _ _ _ (.ref 80 :: _)
  refine T_putF dX11_init_58 lfX11_28 rfl rfl ⟨rfl, rfl⟩ rfl (Nat.le_of_ble_eq_true rfl) ?_
  show TK _ _ _ _ _ Sh175 He167 _ _ _ _
  refine T_aload dX11_init_61 rfl ?_
  refine T_const dX11_init_62 ?_
  refine T_newa (bc := 16) (bs := 1940) (N := 10) (k := 20) dX11_init_64 (Or.inl ⟨rfl, rfl⟩) rfl (by decide) arrW (Nat.le_of_ble_eq_true rfl) ?_
  show TK _ _ _ _ _ Sh176 He168 _ _ _ (.ref 81 :: _)
  refine T_putF dX11_init_66 lfX11_31 rfl rfl ⟨rfl, rfl⟩ rfl (Nat.le_of_ble_eq_true rfl) ?_
  show TK _ _ _ _ _ Sh177 He168 _ _ _ _
  refine T_aload dX11_init_69 rfl ?_
  refine T_const dX11_init_70 ?_
  refine T_newa (bc := 15) (bs := 1930) (N := 10) (k := 20) dX11_init_72 (Or.inl ⟨rfl, rfl⟩) rfl (by decide) arrW (Nat.le_of_ble_eq_true rfl) ?_
  show TK _ _ _ _ _ Sh178 He169 _ _ _ (.ref 82 :: _)
  refine T_putF dX11_init_74 lfX11_34 rfl rfl ⟨rfl, rfl⟩ rfl (Nat.le_of_ble_eq_true rfl) ?_
  show TK _ _ _ _ _ Sh179 He169 _ _ _ _
  refine T_aload dX11_init_77 rfl ?_
  refine T_const dX11_init_78 ?_
  refine T_newa (bc := 14) (bs := 1920) (N := 10) (k := 20) dX11_init_80 (Or.inl ⟨rfl, rfl⟩) rfl (by decide) arrW (Nat.le_of_ble_eq_true rfl) ?_
  show TK _ _ _ _ _ Sh180 He170 _ _ _ (.ref 83 :: _)
  refine T_putF dX11_init_82 lfX11_37 rfl rfl ⟨rfl, rfl⟩ rfl (Nat.le_of_ble_eq_true rfl) ?_
  show TK _ _ _ _ _ Sh181 He170 _ _ _ _
  refine T_aload dX11_init_85 rfl ?_
  refine T_const dX11_init_86 ?_
  refine T_newa (bc := 13) (bs := 1916) (N := 4) (k := 20) dX11_init_87 (Or.inl ⟨rfl, rfl⟩) rfl (by decide) arrW (Nat.le_of_ble_eq_true rfl) ?_
  show TK _ _ _ _ _ Sh182 He171 _ _ _ (.ref 84 :: _)
  refine T_putF dX11_init_89 lfX11_40 rfl rfl ⟨rfl, rfl⟩ rfl (Nat.le_of_ble_eq_true rfl) ?_
  show TK _ _ _ _ _ Sh183 He171 _ _ _ _
  refine T_aload dX11_init_92 rfl ?_
  refine T_const dX11_init_93 ?_
  refine T_newa (bc := 12) (bs := 1912) (N := 4) (k := 20) dX11_init_94 (Or.inl ⟨rfl, rfl⟩) rfl (by decide) arrW (Nat.le_of_ble_eq_true rfl) ?_
  show TK _ _ _ _ _ Sh184 He172 _ _ _ (.ref 85 :: _)
  refine T_putF dX11_init_96 lfX11_43 rfl rfl ⟨rfl, rfl⟩ rfl (Nat.le_of_ble_eq_true rfl) ?_
  show TK _ _ _ _ _ Sh185 He172 _ _ _ _
  refine T_aload dX11_init_99 rfl ?_
  refine T_const dX11_init_100 ?_
  refine T_newa (bc := 11) (bs := 1812) (N := 100) (k := 20) dX11_init_102 (Or.inl ⟨rfl, rfl⟩) rfl (by decide) arrW (Nat.le_of_ble_eq_true rfl) ?_
  show TK _ _ _ _ _ Sh186 He173 _ _ _ (.ref 86 :: _)
  refine T_putF dX11_init_104 lfX11_46 rfl rfl ⟨rfl, rfl⟩ rfl (Nat.le_of_ble_eq_true rfl) ?_
  show TK _ _ _ _ _ Sh187 He173 _ _ _ _
  refine T_aload dX11_init_107 rfl ?_
  refine T_const dX11_init_108 ?_
  refine T_newa (bc := 10) (bs := 1712) (N := 100) (k := 20) dX11_init_110 (Or.inl ⟨rfl, rfl⟩) rfl (by decide) arrW (Nat.le_of_ble_eq_true rfl) ?_
  show TK _ _ _ _ _ Sh188 He174 _ _ _ (.ref 87 :: _)
  refine T_putF dX11_init_112 lfX11_49 rfl rfl ⟨rfl, rfl⟩ rfl (Nat.le_of_ble_eq_true rfl) ?_
  show TK _ _ _ _ _ Sh189 He174 _ _ _ _
  refine T_aload dX11_init_115 rfl ?_
  refine T_const dX11_init_116 ?_
  refine T_newa (bc := 9) (bs := 688) (N := 1024) (k := 20) dX11_init_119 (Or.inl ⟨rfl, rfl⟩) rfl (by decide) arrW (Nat.le_of_ble_eq_true rfl) ?_
  show TK _ _ _ _ _ Sh190 He175 _ _ _ (.ref 88 :: _)
  refine T_putF dX11_init_121 lfX11_52 rfl rfl ⟨rfl, rfl⟩ rfl (Nat.le_of_ble_eq_true rfl) ?_
  show TK _ _ _ _ _ Sh191 He175 _ _ _ _
  refine T_aload dX11_init_124 rfl ?_
  refine T_const dX11_init_125 ?_
  refine T_newa (bc := 8) (bs := 683) (N := 5) (k := 20) dX11_init_126 (Or.inl ⟨rfl, rfl⟩) rfl (by decide) arrW (Nat.le_of_ble_eq_true rfl) ?_
  show TK _ _ _ _ _ Sh192 He176 _ _ _ (.ref 89 :: _)
  refine T_putF dX11_init_128 lfX11_55 rfl rfl ⟨rfl, rfl⟩ rfl (Nat.le_of_ble_eq_true rfl) ?_
  show TK _ _ _ _ _ Sh193 He176 _ _ _ _
  refine T_aload dX11_init_131 rfl ?_
  refine T_const dX11_init_132 ?_
  refine T_newa (bc := 7) (bs := 511) (N := 172) (k := 20) dX11_init_135 (Or.inl ⟨rfl, rfl⟩) rfl (by decide) arrW (Nat.le_of_ble_eq_true rfl) ?_
  show TK _ _ _ _ _ Sh194 He177 _ _ _ (.ref 90 :: _)
  refine T_putF dX11_init_137 lfX11_58 rfl rfl ⟨rfl, rfl⟩ rfl (Nat.le_of_ble_eq_true rfl) ?_
  show TK _ _ _ _ _ Sh195 He177 _ _ _ _
  refine T_aload dX11_init_140 rfl ?_
  refine T_const dX11_init_141 ?_
  refine T_newa (bc := 6) (bs := 506) (N := 5) (k := 20) dX11_init_142 (Or.inl ⟨rfl, rfl⟩) rfl (by decide) arrW (Nat.le_of_ble_eq_true rfl) ?_
  show TK _ _ _ _ _ Sh196 He178 _ _ _ (.ref 91 :: _)
  refine T_putF dX11_init_144 lfX11_61 rfl rfl ⟨rfl, rfl⟩ rfl (Nat.le_of_ble_eq_true rfl) ?_
  show TK _ _ _ _ _ Sh197 He178 _ _ _ _
  refine T_aload dX11_init_147 rfl ?_
  refine T_const dX11_init_148 ?_
  refine T_newa (bc := 5) (bs := 456) (N := 50) (k := 20) dX11_init_150 (Or.inl ⟨rfl, rfl⟩) rfl (by decide) arrW (Nat.le_of_ble_eq_true rfl) ?_
  show TK _ _ _ _ _ Sh198 He179 _ _ _ (.ref 92 :: _)
  refine T_putF dX11_init_152 lfX11_64 rfl rfl ⟨rfl, rfl⟩ rfl (Nat.le_of_ble_eq_true rfl) ?_
  show TK _ _ _ _ _ Sh199 He179 _ _ _ _
  refine T_aload dX11_init_155 rfl ?_
  refine T_const dX11_init_156 ?_
  refine T_newa (bc := 4) (bs := 432) (N := 24) (k := 20) dX11_init_158 (Or.inl ⟨rfl, rfl⟩) rfl (by decide) arrW (Nat.le_of_ble_eq_true rfl) ?_
  show TK _ _ _ _ _ Sh200 He180 _ _ _ (.ref 93 :: _)
  refine T_putF dX11_init_160 lfX11_67 rfl rfl ⟨rfl, rfl⟩ rfl (Nat.le_of_ble_eq_true rfl) ?_
  show TK _ _ _ _ _ Sh201 He180 _ _ _ _
  refine T_aload dX11_init_163 rfl ?_
  refine T_const dX11_init_164 ?_
  refine T_newa (bc := 3) (bs := 426) (N := 6) (k := 20) dX11_init_166 (Or.inl ⟨rfl, rfl⟩) rfl (by decide) arrW (Nat.le_of_ble_eq_true rfl) ?_
  show TK _ _ _ _ _ Sh202 He181 _ _ _ (.ref 94 :: _)
  refine T_putF dX11_init_168 lfX11_70 rfl rfl ⟨rfl, rfl⟩ rfl (Nat.le_of_ble_eq_true rfl) ?_
  show TK _ _ _ _ _ Sh203 He181 _ _ _ _
  refine T_aload dX11_init_171 rfl ?_
  refine T_const dX11_init_172 ?_
  refine T_newa (bc := 2) (bs := 420) (N := 6) (k := 20) dX11_init_174 (Or.inl ⟨rfl, rfl⟩) rfl (by decide) arrW (Nat.le_of_ble_eq_true rfl) ?_
  show TK _ _ _ _ _ Sh204 He182 _ _ _ (.ref 95 :: _)
  refine T_putF dX11_init_176 lfX11_73 rfl rfl ⟨rfl, rfl⟩ rfl (Nat.le_of_ble_eq_true rfl) ?_
  show TK _ _ _ _ _ Sh205 He182 _ _ _ _
  refine T_aload dX11_init_179 rfl ?_
  refine T_const dX11_init_180 ?_
  refine T_newa (bc := 1) (bs := 60) (N := 360) (k := 21) dX11_init_183 (Or.inr ⟨rfl, rfl⟩) rfl (by decide) arrW (Nat.le_of_ble_eq_true rfl) ?_
  show TK _ _ _ _ _ Sh206 He183 _ _ _ (.ref 96 :: _)
  refine T_putF dX11_init_185 lfX11_76 rfl rfl ⟨rfl, rfl⟩ rfl (Nat.le_of_ble_eq_true rfl) ?_
  show TK _ _ _ _ _ Sh207 He183 _ _ _ _
  refine T_aload dX11_init_188 rfl ?_
  refine T_const dX11_init_189 ?_
  refine T_newa (bc := 0) (bs := 0) (N := 60) (k := 21) dX11_init_191 (Or.inr ⟨rfl, rfl⟩) rfl (by decide) arrW (Nat.le_of_ble_eq_true rfl) ?_
  show TK _ _ _ _ _ Sh208 He184 _ _ _ (.ref 97 :: _)
  refine T_putF dX11_init_193 lfX11_80 rfl rfl ⟨rfl, rfl⟩ rfl (Nat.le_of_ble_eq_true rfl) ?_
  show TK _ _ _ _ _ Sh209 He184 _ _ _ _
  refine T_const dX11_init_196 ?_
  refine T_istore dX11_init_197 ?_
  show TK _ _ _ _ _ _ _ _ _ [.ref 73, .int (nI 0)] _
  refine T_iload dX11_init_198 rfl ?_
  refine T_const dX11_init_199 ?_
  refine T_icmp_ge dX11_init_201 (fun z => absurd z (by decide)) (fun _ => ?_)
  refine T_aload dX11_init_204 rfl ?_
  refine T_getr (b := 94) dX11_init_205 lfX11_70 rfl rfl (Nat.le_of_ble_eq_true rfl) rfl ?_
  refine T_iload dX11_init_208 rfl ?_
  refine T_const dX11_init_209 ?_
  refine T_iastN (N := 6) (i := 0) dX11_init_210 rfl (Nat.le_of_ble_eq_true rfl) rfl (by decide) (by decide) (by decide) ?_
  show TK _ _ _ _ _ Sh209 He185 _ _ _ _
  refine T_iinc dX11_init_211 rfl ?_
  show TK _ _ _ _ _ _ _ _ _ [.ref 73, .int (nI 1)] _
  refine T_goto dX11_init_214 ?_
  refine T_iload dX11_init_198 rfl ?_
  refine T_const dX11_init_199 ?_
  refine T_icmp_ge dX11_init_201 (fun z => absurd z (by decide)) (fun _ => ?_)
  refine T_aload dX11_init_204 rfl ?_
  refine T_getr (b := 94) dX11_init_205 lfX11_70 rfl rfl (Nat.le_of_ble_eq_true rfl) rfl ?_
  refine T_iload dX11_init_208 rfl ?_
  refine T_const dX11_init_209 ?_
  refine T_iastN (N := 6) (i := 1) dX11_init_210 rfl (Nat.le_of_ble_eq_true rfl) rfl (by decide) (by decide) (by decide) ?_
  show TK _ _ _ _ _ Sh209 He186 _ _ _ _
  refine T_iinc dX11_init_211 rfl ?_
  show TK _ _ _ _ _ _ _ _ _ [.ref 73, .int (nI 2)] _
  refine T_goto dX11_init_214 ?_
  refine T_iload dX11_init_198 rfl ?_
  refine T_const dX11_init_199 ?_
  refine T_icmp_ge dX11_init_201 (fun z => absurd z (by decide)) (fun _ => ?_)
  refine T_aload dX11_init_204 rfl ?_
  refine T_getr (b := 94) dX11_init_205 lfX11_70 rfl rfl (Nat.le_of_ble_eq_true rfl) rfl ?_
  refine T_iload dX11_init_208 rfl ?_
  refine T_const dX11_init_209 ?_
  refine T_iastN (N := 6) (i := 2) dX11_init_210 rfl (Nat.le_of_ble_eq_true rfl) rfl (by decide) (by decide) (by decide) ?_
  show TK _ _ _ _ _ Sh209 He187 _ _ _ _
  refine T_iinc dX11_init_211 rfl ?_
  show TK _ _ _ _ _ _ _ _ _ [.ref 73, .int (nI 3)] _
  refine T_goto dX11_init_214 ?_
  refine T_iload dX11_init_198 rfl ?_
  refine T_const dX11_init_199 ?_
  refine T_icmp_ge dX11_init_201 (fun z => absurd z (by decide)) (fun _ => ?_)
  refine T_aload dX11_init_204 rfl ?_
  refine T_getr (b := 94) dX11_init_205 lfX11_70 rfl rfl (Nat.le_of_ble_eq_true rfl) rfl ?_
  refine T_iload dX11_init_208 rfl ?_
  refine T_const dX11_init_209 ?_
  refine T_iastN (N := 6) (i := 3) dX11_init_210 rfl (Nat.le_of_ble_eq_true rfl) rfl (by decide) (by decide) (by decide) ?_
  show TK _ _ _ _ _ Sh209 He188 _ _ _ _
  refine T_iinc dX11_init_211 rfl ?_
  show TK _ _ _ _ _ _ _ _ _ [.ref 73, .int (nI 4)] _
  refine T_goto dX11_init_214 ?_
  refine T_iload dX11_init_198 rfl ?_
  refine T_const dX11_init_199 ?_
  refine T_icmp_ge dX11_init_201 (fun z => absurd z (by decide)) (fun _ => ?_)
  refine T_aload dX11_init_204 rfl ?_
  refine T_getr (b := 94) dX11_init_205 lfX11_70 rfl rfl (Nat.le_of_ble_eq_true rfl) rfl ?_
  refine T_iload dX11_init_208 rfl ?_
  refine T_const dX11_init_209 ?_
  refine T_iastN (N := 6) (i := 4) dX11_init_210 rfl (Nat.le_of_ble_eq_true rfl) rfl (by decide) (by decide) (by decide) ?_
  show TK _ _ _ _ _ Sh209 He189 _ _ _ _
  refine T_iinc dX11_init_211 rfl ?_
  show TK _ _ _ _ _ _ _ _ _ [.ref 73, .int (nI 5)] _
  refine T_goto dX11_init_214 ?_
  refine T_iload dX11_init_198 rfl ?_
  refine T_const dX11_init_199 ?_
  refine T_icmp_ge dX11_init_201 (fun z => absurd z (by decide)) (fun _ => ?_)
  refine T_aload dX11_init_204 rfl ?_
  refine T_getr (b := 94) dX11_init_205 lfX11_70 rfl rfl (Nat.le_of_ble_eq_true rfl) rfl ?_
  refine T_iload dX11_init_208 rfl ?_
  refine T_const dX11_init_209 ?_
  refine T_iastN (N := 6) (i := 5) dX11_init_210 rfl (Nat.le_of_ble_eq_true rfl) rfl (by decide) (by decide) (by decide) ?_
  show TK _ _ _ _ _ Sh209 He190 _ _ _ _
  refine T_iinc dX11_init_211 rfl ?_
  show TK _ _ _ _ _ _ _ _ _ [.ref 73, .int (nI 6)] _
  refine T_goto dX11_init_214 ?_
  refine T_iload dX11_init_198 rfl ?_
  refine T_const dX11_init_199 ?_
  refine T_icmp_ge dX11_init_201 (fun _ => ?_) (fun z => absurd (by decide) z)
  refine T_aload dX11_init_217 rfl ?_
  refine T_const dX11_init_218 ?_
  refine T_putf dX11_init_219 lfX11_83 rfl rfl rfl (Nat.le_of_ble_eq_true rfl) ⟨rfl, rfl⟩ ?_
  show TK _ _ _ _ _ Sh209 He191 _ _ _ _
  refine T_const dX11_init_222 ?_
  refine T_istore dX11_init_223 ?_
  show TK _ _ _ _ _ _ _ _ _ [.ref 73, .int (nI 0)] _
  refine T_iload dX11_init_224 rfl ?_
  refine T_const dX11_init_225 ?_
  refine T_icmp_ge dX11_init_227 (fun z => absurd z (by decide)) (fun _ => ?_)
  refine T_aload dX11_init_230 rfl ?_
  refine T_getr (b := 74) dX11_init_231 lfX11_9 rfl rfl (Nat.le_of_ble_eq_true rfl) rfl ?_
  refine T_const dX11_init_234 ?_
  refine T_iload dX11_init_236 rfl ?_
  refine T_iadd dX11_init_237 ?_
  refine T_const dX11_init_238 ?_
  refine T_iastN (N := 172) (i := 104) dX11_init_239 rfl (Nat.le_of_ble_eq_true rfl) rfl (by decide) (by decide) (by decide) ?_
  show TK _ _ _ _ _ Sh209 He192 _ _ _ _
  refine T_iinc dX11_init_240 rfl ?_
  show TK _ _ _ _ _ _ _ _ _ [.ref 73, .int (nI 1)] _
  refine T_goto dX11_init_243 ?_
  refine T_iload dX11_init_224 rfl ?_
  refine T_const dX11_init_225 ?_
  refine T_icmp_ge dX11_init_227 (fun z => absurd z (by decide)) (fun _ => ?_)
  refine T_aload dX11_init_230 rfl ?_
  refine T_getr (b := 74) dX11_init_231 lfX11_9 rfl rfl (Nat.le_of_ble_eq_true rfl) rfl ?_
  refine T_const dX11_init_234 ?_
  refine T_iload dX11_init_236 rfl ?_
  refine T_iadd dX11_init_237 ?_
  refine T_const dX11_init_238 ?_
  refine T_iastN (N := 172) (i := 105) dX11_init_239 rfl (Nat.le_of_ble_eq_true rfl) rfl (by decide) (by decide) (by decide) ?_
  show TK _ _ _ _ _ Sh209 He193 _ _ _ _
  refine T_iinc dX11_init_240 rfl ?_
  show TK _ _ _ _ _ _ _ _ _ [.ref 73, .int (nI 2)] _
  refine T_goto dX11_init_243 ?_
  refine T_iload dX11_init_224 rfl ?_
  refine T_const dX11_init_225 ?_
  refine T_icmp_ge dX11_init_227 (fun z => absurd z (by decide)) (fun _ => ?_)
  refine T_aload dX11_init_230 rfl ?_
  refine T_getr (b := 74) dX11_init_231 lfX11_9 rfl rfl (Nat.le_of_ble_eq_true rfl) rfl ?_
  refine T_const dX11_init_234 ?_
  refine T_iload dX11_init_236 rfl ?_
  refine T_iadd dX11_init_237 ?_
  refine T_const dX11_init_238 ?_
  refine T_iastN (N := 172) (i := 106) dX11_init_239 rfl (Nat.le_of_ble_eq_true rfl) rfl (by decide) (by decide) (by decide) ?_
  show TK _ _ _ _ _ Sh209 He194 _ _ _ _
  refine T_iinc dX11_init_240 rfl ?_
  show TK _ _ _ _ _ _ _ _ _ [.ref 73, .int (nI 3)] _
  refine T_goto dX11_init_243 ?_
  refine T_iload dX11_init_224 rfl ?_
  refine T_const dX11_init_225 ?_
  refine T_icmp_ge dX11_init_227 (fun z => absurd z (by decide)) (fun _ => ?_)
  refine T_aload dX11_init_230 rfl ?_
  refine T_getr (b := 74) dX11_init_231 lfX11_9 rfl rfl (Nat.le_of_ble_eq_true rfl) rfl ?_
  refine T_const dX11_init_234 ?_
  refine T_iload dX11_init_236 rfl ?_
  refine T_iadd dX11_init_237 ?_
  refine T_const dX11_init_238 ?_
  refine T_iastN (N := 172) (i := 107) dX11_init_239 rfl (Nat.le_of_ble_eq_true rfl) rfl (by decide) (by decide) (by decide) ?_
  show TK _ _ _ _ _ Sh209 He195 _ _ _ _
  refine T_iinc dX11_init_240 rfl ?_
  show TK _ _ _ _ _ _ _ _ _ [.ref 73, .int (nI 4)] _
  refine T_goto dX11_init_243 ?_
  refine T_iload dX11_init_224 rfl ?_
  refine T_const dX11_init_225 ?_
  refine T_icmp_ge dX11_init_227 (fun z => absurd z (by decide)) (fun _ => ?_)
  refine T_aload dX11_init_230 rfl ?_
  refine T_getr (b := 74) dX11_init_231 lfX11_9 rfl rfl (Nat.le_of_ble_eq_true rfl) rfl ?_
  refine T_const dX11_init_234 ?_
  refine T_iload dX11_init_236 rfl ?_
  refine T_iadd dX11_init_237 ?_
  refine T_const dX11_init_238 ?_
  refine T_iastN (N := 172) (i := 108) dX11_init_239 rfl (Nat.le_of_ble_eq_true rfl) rfl (by decide) (by decide) (by decide) ?_
  show TK _ _ _ _ _ Sh209 He196 _ _ _ _
  refine T_iinc dX11_init_240 rfl ?_
  show TK _ _ _ _ _ _ _ _ _ [.ref 73, .int (nI 5)] _
  refine T_goto dX11_init_243 ?_
  refine T_iload dX11_init_224 rfl ?_
  refine T_const dX11_init_225 ?_
  refine T_icmp_ge dX11_init_227 (fun z => absurd z (by decide)) (fun _ => ?_)
  refine T_aload dX11_init_230 rfl ?_
  refine T_getr (b := 74) dX11_init_231 lfX11_9 rfl rfl (Nat.le_of_ble_eq_true rfl) rfl ?_
  refine T_const dX11_init_234 ?_
  refine T_iload dX11_init_236 rfl ?_
  refine T_iadd dX11_init_237 ?_
  refine T_const dX11_init_238 ?_
  refine T_iastN (N := 172) (i := 109) dX11_init_239 rfl (Nat.le_of_ble_eq_true rfl) rfl (by decide) (by decide) (by decide) ?_
  show TK _ _ _ _ _ Sh209 He197 _ _ _ _
  refine T_iinc dX11_init_240 rfl ?_
  show TK _ _ _ _ _ _ _ _ _ [.ref 73, .int (nI 6)] _
  refine T_goto dX11_init_243 ?_
  refine T_iload dX11_init_224 rfl ?_
  refine T_const dX11_init_225 ?_
  refine T_icmp_ge dX11_init_227 (fun z => absurd z (by decide)) (fun _ => ?_)
  refine T_aload dX11_init_230 rfl ?_
  refine T_getr (b := 74) dX11_init_231 lfX11_9 rfl rfl (Nat.le_of_ble_eq_true rfl) rfl ?_
  refine T_const dX11_init_234 ?_
  refine T_iload dX11_init_236 rfl ?_
  refine T_iadd dX11_init_237 ?_
  refine T_const dX11_init_238 ?_
  refine T_iastN (N := 172) (i := 110) dX11_init_239 rfl (Nat.le_of_ble_eq_true rfl) rfl (by decide) (by decide) (by decide) ?_
  show TK _ _ _ _ _ Sh209 He198 _ _ _ _
  refine T_iinc dX11_init_240 rfl ?_
  show TK _ _ _ _ _ _ _ _ _ [.ref 73, .int (nI 7)] _
  refine T_goto dX11_init_243 ?_
  refine T_iload dX11_init_224 rfl ?_
  refine T_const dX11_init_225 ?_
  refine T_icmp_ge dX11_init_227 (fun z => absurd z (by decide)) (fun _ => ?_)
  refine T_aload dX11_init_230 rfl ?_
  refine T_getr (b := 74) dX11_init_231 lfX11_9 rfl rfl (Nat.le_of_ble_eq_true rfl) rfl ?_
  refine T_const dX11_init_234 ?_
  refine T_iload dX11_init_236 rfl ?_
  refine T_iadd dX11_init_237 ?_
  refine T_const dX11_init_238 ?_
  refine T_iastN (N := 172) (i := 111) dX11_init_239 rfl (Nat.le_of_ble_eq_true rfl) rfl (by decide) (by decide) (by decide) ?_
  show TK _ _ _ _ _ Sh209 He199 _ _ _ _
  refine T_iinc dX11_init_240 rfl ?_
  show TK _ _ _ _ _ _ _ _ _ [.ref 73, .int (nI 8)] _
  refine T_goto dX11_init_243 ?_
  refine T_iload dX11_init_224 rfl ?_
  refine T_const dX11_init_225 ?_
  refine T_icmp_ge dX11_init_227 (fun z => absurd z (by decide)) (fun _ => ?_)
  refine T_aload dX11_init_230 rfl ?_
  refine T_getr (b := 74) dX11_init_231 lfX11_9 rfl rfl (Nat.le_of_ble_eq_true rfl) rfl ?_
  refine T_const dX11_init_234 ?_
  refine T_iload dX11_init_236 rfl ?_
  refine T_iadd dX11_init_237 ?_
  refine T_const dX11_init_238 ?_
  refine T_iastN (N := 172) (i := 112) dX11_init_239 rfl (Nat.le_of_ble_eq_true rfl) rfl (by decide) (by decide) (by decide) ?_
  show TK _ _ _ _ _ Sh209 He200 _ _ _ _
  refine T_iinc dX11_init_240 rfl ?_
  show TK _ _ _ _ _ _ _ _ _ [.ref 73, .int (nI 9)] _
  refine T_goto dX11_init_243 ?_
  refine T_iload dX11_init_224 rfl ?_
  refine T_const dX11_init_225 ?_
  refine T_icmp_ge dX11_init_227 (fun z => absurd z (by decide)) (fun _ => ?_)
  refine T_aload dX11_init_230 rfl ?_
  refine T_getr (b := 74) dX11_init_231 lfX11_9 rfl rfl (Nat.le_of_ble_eq_true rfl) rfl ?_
  refine T_const dX11_init_234 ?_
  refine T_iload dX11_init_236 rfl ?_
  refine T_iadd dX11_init_237 ?_
  refine T_const dX11_init_238 ?_
  refine T_iastN (N := 172) (i := 113) dX11_init_239 rfl (Nat.le_of_ble_eq_true rfl) rfl (by decide) (by decide) (by decide) ?_
  show TK _ _ _ _ _ Sh209 He201 _ _ _ _
  refine T_iinc dX11_init_240 rfl ?_
  show TK _ _ _ _ _ _ _ _ _ [.ref 73, .int (nI 10)] _
  refine T_goto dX11_init_243 ?_
  refine T_iload dX11_init_224 rfl ?_
  refine T_const dX11_init_225 ?_
  refine T_icmp_ge dX11_init_227 (fun z => absurd z (by decide)) (fun _ => ?_)
  refine T_aload dX11_init_230 rfl ?_
  refine T_getr (b := 74) dX11_init_231 lfX11_9 rfl rfl (Nat.le_of_ble_eq_true rfl) rfl ?_
  refine T_const dX11_init_234 ?_
  refine T_iload dX11_init_236 rfl ?_
  refine T_iadd dX11_init_237 ?_
  refine T_const dX11_init_238 ?_
  refine T_iastN (N := 172) (i := 114) dX11_init_239 rfl (Nat.le_of_ble_eq_true rfl) rfl (by decide) (by decide) (by decide) ?_
  show TK _ _ _ _ _ Sh209 He202 _ _ _ _
  refine T_iinc dX11_init_240 rfl ?_
  show TK _ _ _ _ _ _ _ _ _ [.ref 73, .int (nI 11)] _
  refine T_goto dX11_init_243 ?_
  refine T_iload dX11_init_224 rfl ?_
  refine T_const dX11_init_225 ?_
  refine T_icmp_ge dX11_init_227 (fun z => absurd z (by decide)) (fun _ => ?_)
  refine T_aload dX11_init_230 rfl ?_
  refine T_getr (b := 74) dX11_init_231 lfX11_9 rfl rfl (Nat.le_of_ble_eq_true rfl) rfl ?_
  refine T_const dX11_init_234 ?_
  refine T_iload dX11_init_236 rfl ?_
  refine T_iadd dX11_init_237 ?_
  refine T_const dX11_init_238 ?_
  refine T_iastN (N := 172) (i := 115) dX11_init_239 rfl (Nat.le_of_ble_eq_true rfl) rfl (by decide) (by decide) (by decide) ?_
  show TK _ _ _ _ _ Sh209 He203 _ _ _ _
  refine T_iinc dX11_init_240 rfl ?_
  show TK _ _ _ _ _ _ _ _ _ [.ref 73, .int (nI 12)] _
  refine T_goto dX11_init_243 ?_
  refine T_iload dX11_init_224 rfl ?_
  refine T_const dX11_init_225 ?_
  refine T_icmp_ge dX11_init_227 (fun z => absurd z (by decide)) (fun _ => ?_)
  refine T_aload dX11_init_230 rfl ?_
  refine T_getr (b := 74) dX11_init_231 lfX11_9 rfl rfl (Nat.le_of_ble_eq_true rfl) rfl ?_
  refine T_const dX11_init_234 ?_
  refine T_iload dX11_init_236 rfl ?_
  refine T_iadd dX11_init_237 ?_
  refine T_const dX11_init_238 ?_
  refine T_iastN (N := 172) (i := 116) dX11_init_239 rfl (Nat.le_of_ble_eq_true rfl) rfl (by decide) (by decide) (by decide) ?_
  show TK _ _ _ _ _ Sh209 He204 _ _ _ _
  refine T_iinc dX11_init_240 rfl ?_
  show TK _ _ _ _ _ _ _ _ _ [.ref 73, .int (nI 13)] _
  refine T_goto dX11_init_243 ?_
  refine T_iload dX11_init_224 rfl ?_
  refine T_const dX11_init_225 ?_
  refine T_icmp_ge dX11_init_227 (fun z => absurd z (by decide)) (fun _ => ?_)
  refine T_aload dX11_init_230 rfl ?_
  refine T_getr (b := 74) dX11_init_231 lfX11_9 rfl rfl (Nat.le_of_ble_eq_true rfl) rfl ?_
  refine T_const dX11_init_234 ?_
  refine T_iload dX11_init_236 rfl ?_
  refine T_iadd dX11_init_237 ?_
  refine T_const dX11_init_238 ?_
  refine T_iastN (N := 172) (i := 117) dX11_init_239 rfl (Nat.le_of_ble_eq_true rfl) rfl (by decide) (by decide) (by decide) ?_
  show TK _ _ _ _ _ Sh209 He205 _ _ _ _
  refine T_iinc dX11_init_240 rfl ?_
  show TK _ _ _ _ _ _ _ _ _ [.ref 73, .int (nI 14)] _
  refine T_goto dX11_init_243 ?_
  refine T_iload dX11_init_224 rfl ?_
  refine T_const dX11_init_225 ?_
  refine T_icmp_ge dX11_init_227 (fun z => absurd z (by decide)) (fun _ => ?_)
  refine T_aload dX11_init_230 rfl ?_
  refine T_getr (b := 74) dX11_init_231 lfX11_9 rfl rfl (Nat.le_of_ble_eq_true rfl) rfl ?_
  refine T_const dX11_init_234 ?_
  refine T_iload dX11_init_236 rfl ?_
  refine T_iadd dX11_init_237 ?_
  refine T_const dX11_init_238 ?_
  refine T_iastN (N := 172) (i := 118) dX11_init_239 rfl (Nat.le_of_ble_eq_true rfl) rfl (by decide) (by decide) (by decide) ?_
  show TK _ _ _ _ _ Sh209 He206 _ _ _ _
  refine T_iinc dX11_init_240 rfl ?_
  show TK _ _ _ _ _ _ _ _ _ [.ref 73, .int (nI 15)] _
  refine T_goto dX11_init_243 ?_
  refine T_iload dX11_init_224 rfl ?_
  refine T_const dX11_init_225 ?_
  refine T_icmp_ge dX11_init_227 (fun z => absurd z (by decide)) (fun _ => ?_)
  refine T_aload dX11_init_230 rfl ?_
  refine T_getr (b := 74) dX11_init_231 lfX11_9 rfl rfl (Nat.le_of_ble_eq_true rfl) rfl ?_
  refine T_const dX11_init_234 ?_
  refine T_iload dX11_init_236 rfl ?_
  refine T_iadd dX11_init_237 ?_
  refine T_const dX11_init_238 ?_
  refine T_iastN (N := 172) (i := 119) dX11_init_239 rfl (Nat.le_of_ble_eq_true rfl) rfl (by decide) (by decide) (by decide) ?_
  show TK _ _ _ _ _ Sh209 He207 _ _ _ _
  refine T_iinc dX11_init_240 rfl ?_
  show TK _ _ _ _ _ _ _ _ _ [.ref 73, .int (nI 16)] _
  refine T_goto dX11_init_243 ?_
  refine T_iload dX11_init_224 rfl ?_
  refine T_const dX11_init_225 ?_
  refine T_icmp_ge dX11_init_227 (fun z => absurd z (by decide)) (fun _ => ?_)
  refine T_aload dX11_init_230 rfl ?_
  refine T_getr (b := 74) dX11_init_231 lfX11_9 rfl rfl (Nat.le_of_ble_eq_true rfl) rfl ?_
  refine T_const dX11_init_234 ?_
  refine T_iload dX11_init_236 rfl ?_
  refine T_iadd dX11_init_237 ?_
  refine T_const dX11_init_238 ?_
  refine T_iastN (N := 172) (i := 120) dX11_init_239 rfl (Nat.le_of_ble_eq_true rfl) rfl (by decide) (by decide) (by decide) ?_
  show TK _ _ _ _ _ Sh209 He208 _ _ _ _
  refine T_iinc dX11_init_240 rfl ?_
  show TK _ _ _ _ _ _ _ _ _ [.ref 73, .int (nI 17)] _
  refine T_goto dX11_init_243 ?_
  refine T_iload dX11_init_224 rfl ?_
  refine T_const dX11_init_225 ?_
  refine T_icmp_ge dX11_init_227 (fun z => absurd z (by decide)) (fun _ => ?_)
  refine T_aload dX11_init_230 rfl ?_
  refine T_getr (b := 74) dX11_init_231 lfX11_9 rfl rfl (Nat.le_of_ble_eq_true rfl) rfl ?_
  refine T_const dX11_init_234 ?_
  refine T_iload dX11_init_236 rfl ?_
  refine T_iadd dX11_init_237 ?_
  refine T_const dX11_init_238 ?_
  refine T_iastN (N := 172) (i := 121) dX11_init_239 rfl (Nat.le_of_ble_eq_true rfl) rfl (by decide) (by decide) (by decide) ?_
  show TK _ _ _ _ _ Sh209 He209 _ _ _ _
  refine T_iinc dX11_init_240 rfl ?_
  show TK _ _ _ _ _ _ _ _ _ [.ref 73, .int (nI 18)] _
  refine T_goto dX11_init_243 ?_
  refine T_iload dX11_init_224 rfl ?_
  refine T_const dX11_init_225 ?_
  refine T_icmp_ge dX11_init_227 (fun z => absurd z (by decide)) (fun _ => ?_)
  refine T_aload dX11_init_230 rfl ?_
  refine T_getr (b := 74) dX11_init_231 lfX11_9 rfl rfl (Nat.le_of_ble_eq_true rfl) rfl ?_
  refine T_const dX11_init_234 ?_
  refine T_iload dX11_init_236 rfl ?_
  refine T_iadd dX11_init_237 ?_
  refine T_const dX11_init_238 ?_
  refine T_iastN (N := 172) (i := 122) dX11_init_239 rfl (Nat.le_of_ble_eq_true rfl) rfl (by decide) (by decide) (by decide) ?_
  show TK _ _ _ _ _ Sh209 He210 _ _ _ _
  refine T_iinc dX11_init_240 rfl ?_
  show TK _ _ _ _ _ _ _ _ _ [.ref 73, .int (nI 19)] _
  refine T_goto dX11_init_243 ?_
  refine T_iload dX11_init_224 rfl ?_
  refine T_const dX11_init_225 ?_
  refine T_icmp_ge dX11_init_227 (fun z => absurd z (by decide)) (fun _ => ?_)
  refine T_aload dX11_init_230 rfl ?_
  refine T_getr (b := 74) dX11_init_231 lfX11_9 rfl rfl (Nat.le_of_ble_eq_true rfl) rfl ?_
  refine T_const dX11_init_234 ?_
  refine T_iload dX11_init_236 rfl ?_
  refine T_iadd dX11_init_237 ?_
  refine T_const dX11_init_238 ?_
  refine T_iastN (N := 172) (i := 123) dX11_init_239 rfl (Nat.le_of_ble_eq_true rfl) rfl (by decide) (by decide) (by decide) ?_
  show TK _ _ _ _ _ Sh209 He211 _ _ _ _
  refine T_iinc dX11_init_240 rfl ?_
  show TK _ _ _ _ _ _ _ _ _ [.ref 73, .int (nI 20)] _
  refine T_goto dX11_init_243 ?_
  refine T_iload dX11_init_224 rfl ?_
  refine T_const dX11_init_225 ?_
  refine T_icmp_ge dX11_init_227 (fun z => absurd z (by decide)) (fun _ => ?_)
  refine T_aload dX11_init_230 rfl ?_
  refine T_getr (b := 74) dX11_init_231 lfX11_9 rfl rfl (Nat.le_of_ble_eq_true rfl) rfl ?_
  refine T_const dX11_init_234 ?_
  refine T_iload dX11_init_236 rfl ?_
  refine T_iadd dX11_init_237 ?_
  refine T_const dX11_init_238 ?_
  refine T_iastN (N := 172) (i := 124) dX11_init_239 rfl (Nat.le_of_ble_eq_true rfl) rfl (by decide) (by decide) (by decide) ?_
  show TK _ _ _ _ _ Sh209 He212 _ _ _ _
  refine T_iinc dX11_init_240 rfl ?_
  show TK _ _ _ _ _ _ _ _ _ [.ref 73, .int (nI 21)] _
  refine T_goto dX11_init_243 ?_
  refine T_iload dX11_init_224 rfl ?_
  refine T_const dX11_init_225 ?_
  refine T_icmp_ge dX11_init_227 (fun z => absurd z (by decide)) (fun _ => ?_)
  refine T_aload dX11_init_230 rfl ?_
  refine T_getr (b := 74) dX11_init_231 lfX11_9 rfl rfl (Nat.le_of_ble_eq_true rfl) rfl ?_
  refine T_const dX11_init_234 ?_
  refine T_iload dX11_init_236 rfl ?_
  refine T_iadd dX11_init_237 ?_
  refine T_const dX11_init_238 ?_
  refine T_iastN (N := 172) (i := 125) dX11_init_239 rfl (Nat.le_of_ble_eq_true rfl) rfl (by decide) (by decide) (by decide) ?_
  show TK _ _ _ _ _ Sh209 He213 _ _ _ _
  refine T_iinc dX11_init_240 rfl ?_
  show TK _ _ _ _ _ _ _ _ _ [.ref 73, .int (nI 22)] _
  refine T_goto dX11_init_243 ?_
  refine T_iload dX11_init_224 rfl ?_
  refine T_const dX11_init_225 ?_
  refine T_icmp_ge dX11_init_227 (fun z => absurd z (by decide)) (fun _ => ?_)
  refine T_aload dX11_init_230 rfl ?_
  refine T_getr (b := 74) dX11_init_231 lfX11_9 rfl rfl (Nat.le_of_ble_eq_true rfl) rfl ?_
  refine T_const dX11_init_234 ?_
  refine T_iload dX11_init_236 rfl ?_
  refine T_iadd dX11_init_237 ?_
  refine T_const dX11_init_238 ?_
  refine T_iastN (N := 172) (i := 126) dX11_init_239 rfl (Nat.le_of_ble_eq_true rfl) rfl (by decide) (by decide) (by decide) ?_
  show TK _ _ _ _ _ Sh209 He214 _ _ _ _
  refine T_iinc dX11_init_240 rfl ?_
  show TK _ _ _ _ _ _ _ _ _ [.ref 73, .int (nI 23)] _
  refine T_goto dX11_init_243 ?_
  refine T_iload dX11_init_224 rfl ?_
  refine T_const dX11_init_225 ?_
  refine T_icmp_ge dX11_init_227 (fun z => absurd z (by decide)) (fun _ => ?_)
  refine T_aload dX11_init_230 rfl ?_
  refine T_getr (b := 74) dX11_init_231 lfX11_9 rfl rfl (Nat.le_of_ble_eq_true rfl) rfl ?_
  refine T_const dX11_init_234 ?_
  refine T_iload dX11_init_236 rfl ?_
  refine T_iadd dX11_init_237 ?_
  refine T_const dX11_init_238 ?_
  refine T_iastN (N := 172) (i := 127) dX11_init_239 rfl (Nat.le_of_ble_eq_true rfl) rfl (by decide) (by decide) (by decide) ?_
  show TK _ _ _ _ _ Sh209 He215 _ _ _ _
  refine T_iinc dX11_init_240 rfl ?_
  show TK _ _ _ _ _ _ _ _ _ [.ref 73, .int (nI 24)] _
  refine T_goto dX11_init_243 ?_
  refine T_iload dX11_init_224 rfl ?_
  refine T_const dX11_init_225 ?_
  refine T_icmp_ge dX11_init_227 (fun z => absurd z (by decide)) (fun _ => ?_)
  refine T_aload dX11_init_230 rfl ?_
  refine T_getr (b := 74) dX11_init_231 lfX11_9 rfl rfl (Nat.le_of_ble_eq_true rfl) rfl ?_
  refine T_const dX11_init_234 ?_
  refine T_iload dX11_init_236 rfl ?_
  refine T_iadd dX11_init_237 ?_
  refine T_const dX11_init_238 ?_
  refine T_iastN (N := 172) (i := 128) dX11_init_239 rfl (Nat.le_of_ble_eq_true rfl) rfl (by decide) (by decide) (by decide) ?_
  show TK _ _ _ _ _ Sh209 He216 _ _ _ _
  refine T_iinc dX11_init_240 rfl ?_
  show TK _ _ _ _ _ _ _ _ _ [.ref 73, .int (nI 25)] _
  refine T_goto dX11_init_243 ?_
  refine T_iload dX11_init_224 rfl ?_
  refine T_const dX11_init_225 ?_
  refine T_icmp_ge dX11_init_227 (fun z => absurd z (by decide)) (fun _ => ?_)
  refine T_aload dX11_init_230 rfl ?_
  refine T_getr (b := 74) dX11_init_231 lfX11_9 rfl rfl (Nat.le_of_ble_eq_true rfl) rfl ?_
  refine T_const dX11_init_234 ?_
  refine T_iload dX11_init_236 rfl ?_
  refine T_iadd dX11_init_237 ?_
  refine T_const dX11_init_238 ?_
  refine T_iastN (N := 172) (i := 129) dX11_init_239 rfl (Nat.le_of_ble_eq_true rfl) rfl (by decide) (by decide) (by decide) ?_
  show TK _ _ _ _ _ Sh209 He217 _ _ _ _
  refine T_iinc dX11_init_240 rfl ?_
  show TK _ _ _ _ _ _ _ _ _ [.ref 73, .int (nI 26)] _
  refine T_goto dX11_init_243 ?_
  refine T_iload dX11_init_224 rfl ?_
  refine T_const dX11_init_225 ?_
  refine T_icmp_ge dX11_init_227 (fun z => absurd z (by decide)) (fun _ => ?_)
  refine T_aload dX11_init_230 rfl ?_
  refine T_getr (b := 74) dX11_init_231 lfX11_9 rfl rfl (Nat.le_of_ble_eq_true rfl) rfl ?_
  refine T_const dX11_init_234 ?_
  refine T_iload dX11_init_236 rfl ?_
  refine T_iadd dX11_init_237 ?_
  refine T_const dX11_init_238 ?_
  refine T_iastN (N := 172) (i := 130) dX11_init_239 rfl (Nat.le_of_ble_eq_true rfl) rfl (by decide) (by decide) (by decide) ?_
  show TK _ _ _ _ _ Sh209 He218 _ _ _ _
  refine T_iinc dX11_init_240 rfl ?_
  show TK _ _ _ _ _ _ _ _ _ [.ref 73, .int (nI 27)] _
  refine T_goto dX11_init_243 ?_
  refine T_iload dX11_init_224 rfl ?_
  refine T_const dX11_init_225 ?_
  refine T_icmp_ge dX11_init_227 (fun z => absurd z (by decide)) (fun _ => ?_)
  refine T_aload dX11_init_230 rfl ?_
  refine T_getr (b := 74) dX11_init_231 lfX11_9 rfl rfl (Nat.le_of_ble_eq_true rfl) rfl ?_
  refine T_const dX11_init_234 ?_
  refine T_iload dX11_init_236 rfl ?_
  refine T_iadd dX11_init_237 ?_
  refine T_const dX11_init_238 ?_
  refine T_iastN (N := 172) (i := 131) dX11_init_239 rfl (Nat.le_of_ble_eq_true rfl) rfl (by decide) (by decide) (by decide) ?_
  show TK _ _ _ _ _ Sh209 He219 _ _ _ _
  refine T_iinc dX11_init_240 rfl ?_
  show TK _ _ _ _ _ _ _ _ _ [.ref 73, .int (nI 28)] _
  refine T_goto dX11_init_243 ?_
  refine T_iload dX11_init_224 rfl ?_
  refine T_const dX11_init_225 ?_
  refine T_icmp_ge dX11_init_227 (fun z => absurd z (by decide)) (fun _ => ?_)
  refine T_aload dX11_init_230 rfl ?_
  refine T_getr (b := 74) dX11_init_231 lfX11_9 rfl rfl (Nat.le_of_ble_eq_true rfl) rfl ?_
  refine T_const dX11_init_234 ?_
  refine T_iload dX11_init_236 rfl ?_
  refine T_iadd dX11_init_237 ?_
  refine T_const dX11_init_238 ?_
  refine T_iastN (N := 172) (i := 132) dX11_init_239 rfl (Nat.le_of_ble_eq_true rfl) rfl (by decide) (by decide) (by decide) ?_
  show TK _ _ _ _ _ Sh209 He220 _ _ _ _
  refine T_iinc dX11_init_240 rfl ?_
  show TK _ _ _ _ _ _ _ _ _ [.ref 73, .int (nI 29)] _
  refine T_goto dX11_init_243 ?_
  refine T_iload dX11_init_224 rfl ?_
  refine T_const dX11_init_225 ?_
  refine T_icmp_ge dX11_init_227 (fun z => absurd z (by decide)) (fun _ => ?_)
  refine T_aload dX11_init_230 rfl ?_
  refine T_getr (b := 74) dX11_init_231 lfX11_9 rfl rfl (Nat.le_of_ble_eq_true rfl) rfl ?_
  refine T_const dX11_init_234 ?_
  refine T_iload dX11_init_236 rfl ?_
  refine T_iadd dX11_init_237 ?_
  refine T_const dX11_init_238 ?_
  refine T_iastN (N := 172) (i := 133) dX11_init_239 rfl (Nat.le_of_ble_eq_true rfl) rfl (by decide) (by decide) (by decide) ?_
  show TK _ _ _ _ _ Sh209 He221 _ _ _ _
  refine T_iinc dX11_init_240 rfl ?_
  show TK _ _ _ _ _ _ _ _ _ [.ref 73, .int (nI 30)] _
  refine T_goto dX11_init_243 ?_
  refine T_iload dX11_init_224 rfl ?_
  refine T_const dX11_init_225 ?_
  refine T_icmp_ge dX11_init_227 (fun z => absurd z (by decide)) (fun _ => ?_)
  refine T_aload dX11_init_230 rfl ?_
  refine T_getr (b := 74) dX11_init_231 lfX11_9 rfl rfl (Nat.le_of_ble_eq_true rfl) rfl ?_
  refine T_const dX11_init_234 ?_
  refine T_iload dX11_init_236 rfl ?_
  refine T_iadd dX11_init_237 ?_
  refine T_const dX11_init_238 ?_
  refine T_iastN (N := 172) (i := 134) dX11_init_239 rfl (Nat.le_of_ble_eq_true rfl) rfl (by decide) (by decide) (by decide) ?_
  show TK _ _ _ _ _ Sh209 He222 _ _ _ _
  refine T_iinc dX11_init_240 rfl ?_
  show TK _ _ _ _ _ _ _ _ _ [.ref 73, .int (nI 31)] _
  refine T_goto dX11_init_243 ?_
  refine T_iload dX11_init_224 rfl ?_
  refine T_const dX11_init_225 ?_
  refine T_icmp_ge dX11_init_227 (fun z => absurd z (by decide)) (fun _ => ?_)
  refine T_aload dX11_init_230 rfl ?_
  refine T_getr (b := 74) dX11_init_231 lfX11_9 rfl rfl (Nat.le_of_ble_eq_true rfl) rfl ?_
  refine T_const dX11_init_234 ?_
  refine T_iload dX11_init_236 rfl ?_
  refine T_iadd dX11_init_237 ?_
  refine T_const dX11_init_238 ?_
  refine T_iastN (N := 172) (i := 135) dX11_init_239 rfl (Nat.le_of_ble_eq_true rfl) rfl (by decide) (by decide) (by decide) ?_
  show TK _ _ _ _ _ Sh209 He223 _ _ _ _
  refine T_iinc dX11_init_240 rfl ?_
  show TK _ _ _ _ _ _ _ _ _ [.ref 73, .int (nI 32)] _
  refine T_goto dX11_init_243 ?_
  refine T_iload dX11_init_224 rfl ?_
  refine T_const dX11_init_225 ?_
  refine T_icmp_ge dX11_init_227 (fun z => absurd z (by decide)) (fun _ => ?_)
  refine T_aload dX11_init_230 rfl ?_
  refine T_getr (b := 74) dX11_init_231 lfX11_9 rfl rfl (Nat.le_of_ble_eq_true rfl) rfl ?_
  refine T_const dX11_init_234 ?_
  refine T_iload dX11_init_236 rfl ?_
  refine T_iadd dX11_init_237 ?_
  refine T_const dX11_init_238 ?_
  refine T_iastN (N := 172) (i := 136) dX11_init_239 rfl (Nat.le_of_ble_eq_true rfl) rfl (by decide) (by decide) (by decide) ?_
  show TK _ _ _ _ _ Sh209 He224 _ _ _ _
  refine T_iinc dX11_init_240 rfl ?_
  show TK _ _ _ _ _ _ _ _ _ [.ref 73, .int (nI 33)] _
  refine T_goto dX11_init_243 ?_
  refine T_iload dX11_init_224 rfl ?_
  refine T_const dX11_init_225 ?_
  refine T_icmp_ge dX11_init_227 (fun z => absurd z (by decide)) (fun _ => ?_)
  refine T_aload dX11_init_230 rfl ?_
  refine T_getr (b := 74) dX11_init_231 lfX11_9 rfl rfl (Nat.le_of_ble_eq_true rfl) rfl ?_
  refine T_const dX11_init_234 ?_
  refine T_iload dX11_init_236 rfl ?_
  refine T_iadd dX11_init_237 ?_
  refine T_const dX11_init_238 ?_
  refine T_iastN (N := 172) (i := 137) dX11_init_239 rfl (Nat.le_of_ble_eq_true rfl) rfl (by decide) (by decide) (by decide) ?_
  show TK _ _ _ _ _ Sh209 He225 _ _ _ _
  refine T_iinc dX11_init_240 rfl ?_
  show TK _ _ _ _ _ _ _ _ _ [.ref 73, .int (nI 34)] _
  refine T_goto dX11_init_243 ?_
  refine T_iload dX11_init_224 rfl ?_
  refine T_const dX11_init_225 ?_
  refine T_icmp_ge dX11_init_227 (fun z => absurd z (by decide)) (fun _ => ?_)
  refine T_aload dX11_init_230 rfl ?_
  refine T_getr (b := 74) dX11_init_231 lfX11_9 rfl rfl (Nat.le_of_ble_eq_true rfl) rfl ?_
  refine T_const dX11_init_234 ?_
  refine T_iload dX11_init_236 rfl ?_
  refine T_iadd dX11_init_237 ?_
  refine T_const dX11_init_238 ?_
  refine T_iastN (N := 172) (i := 138) dX11_init_239 rfl (Nat.le_of_ble_eq_true rfl) rfl (by decide) (by decide) (by decide) ?_
  show TK _ _ _ _ _ Sh209 He226 _ _ _ _
  refine T_iinc dX11_init_240 rfl ?_
  show TK _ _ _ _ _ _ _ _ _ [.ref 73, .int (nI 35)] _
  refine T_goto dX11_init_243 ?_
  refine T_iload dX11_init_224 rfl ?_
  refine T_const dX11_init_225 ?_
  refine T_icmp_ge dX11_init_227 (fun z => absurd z (by decide)) (fun _ => ?_)
  refine T_aload dX11_init_230 rfl ?_
  refine T_getr (b := 74) dX11_init_231 lfX11_9 rfl rfl (Nat.le_of_ble_eq_true rfl) rfl ?_
  refine T_const dX11_init_234 ?_
  refine T_iload dX11_init_236 rfl ?_
  refine T_iadd dX11_init_237 ?_
  refine T_const dX11_init_238 ?_
  refine T_iastN (N := 172) (i := 139) dX11_init_239 rfl (Nat.le_of_ble_eq_true rfl) rfl (by decide) (by decide) (by decide) ?_
  show TK _ _ _ _ _ Sh209 He227 _ _ _ _
  refine T_iinc dX11_init_240 rfl ?_
  show TK _ _ _ _ _ _ _ _ _ [.ref 73, .int (nI 36)] _
  refine T_goto dX11_init_243 ?_
  refine T_iload dX11_init_224 rfl ?_
  refine T_const dX11_init_225 ?_
  refine T_icmp_ge dX11_init_227 (fun z => absurd z (by decide)) (fun _ => ?_)
  refine T_aload dX11_init_230 rfl ?_
  refine T_getr (b := 74) dX11_init_231 lfX11_9 rfl rfl (Nat.le_of_ble_eq_true rfl) rfl ?_
  refine T_const dX11_init_234 ?_
  refine T_iload dX11_init_236 rfl ?_
  refine T_iadd dX11_init_237 ?_
  refine T_const dX11_init_238 ?_
  refine T_iastN (N := 172) (i := 140) dX11_init_239 rfl (Nat.le_of_ble_eq_true rfl) rfl (by decide) (by decide) (by decide) ?_
  show TK _ _ _ _ _ Sh209 He228 _ _ _ _
  refine T_iinc dX11_init_240 rfl ?_
  show TK _ _ _ _ _ _ _ _ _ [.ref 73, .int (nI 37)] _
  refine T_goto dX11_init_243 ?_
  refine T_iload dX11_init_224 rfl ?_
  refine T_const dX11_init_225 ?_
  refine T_icmp_ge dX11_init_227 (fun z => absurd z (by decide)) (fun _ => ?_)
  refine T_aload dX11_init_230 rfl ?_
  refine T_getr (b := 74) dX11_init_231 lfX11_9 rfl rfl (Nat.le_of_ble_eq_true rfl) rfl ?_
  refine T_const dX11_init_234 ?_
  refine T_iload dX11_init_236 rfl ?_
  refine T_iadd dX11_init_237 ?_
  refine T_const dX11_init_238 ?_
  refine T_iastN (N := 172) (i := 141) dX11_init_239 rfl (Nat.le_of_ble_eq_true rfl) rfl (by decide) (by decide) (by decide) ?_
  show TK _ _ _ _ _ Sh209 He229 _ _ _ _
  refine T_iinc dX11_init_240 rfl ?_
  show TK _ _ _ _ _ _ _ _ _ [.ref 73, .int (nI 38)] _
  refine T_goto dX11_init_243 ?_
  refine T_iload dX11_init_224 rfl ?_
  refine T_const dX11_init_225 ?_
  refine T_icmp_ge dX11_init_227 (fun z => absurd z (by decide)) (fun _ => ?_)
  refine T_aload dX11_init_230 rfl ?_
  refine T_getr (b := 74) dX11_init_231 lfX11_9 rfl rfl (Nat.le_of_ble_eq_true rfl) rfl ?_
  refine T_const dX11_init_234 ?_
  refine T_iload dX11_init_236 rfl ?_
  refine T_iadd dX11_init_237 ?_
  refine T_const dX11_init_238 ?_
  refine T_iastN (N := 172) (i := 142) dX11_init_239 rfl (Nat.le_of_ble_eq_true rfl) rfl (by decide) (by decide) (by decide) ?_
  show TK _ _ _ _ _ Sh209 He230 _ _ _ _
  refine T_iinc dX11_init_240 rfl ?_
  show TK _ _ _ _ _ _ _ _ _ [.ref 73, .int (nI 39)] _
  refine T_goto dX11_init_243 ?_
  refine T_iload dX11_init_224 rfl ?_
  refine T_const dX11_init_225 ?_
  refine T_icmp_ge dX11_init_227 (fun z => absurd z (by decide)) (fun _ => ?_)
  refine T_aload dX11_init_230 rfl ?_
  refine T_getr (b := 74) dX11_init_231 lfX11_9 rfl rfl (Nat.le_of_ble_eq_true rfl) rfl ?_
  refine T_const dX11_init_234 ?_
  refine T_iload dX11_init_236 rfl ?_
  refine T_iadd dX11_init_237 ?_
  refine T_const dX11_init_238 ?_
  refine T_iastN (N := 172) (i := 143) dX11_init_239 rfl (Nat.le_of_ble_eq_true rfl) rfl (by decide) (by decide) (by decide) ?_
  show TK _ _ _ _ _ Sh209 He231 _ _ _ _
  refine T_iinc dX11_init_240 rfl ?_
  show TK _ _ _ _ _ _ _ _ _ [.ref 73, .int (nI 40)] _
  refine T_goto dX11_init_243 ?_
  refine T_iload dX11_init_224 rfl ?_
  refine T_const dX11_init_225 ?_
  refine T_icmp_ge dX11_init_227 (fun z => absurd z (by decide)) (fun _ => ?_)
  refine T_aload dX11_init_230 rfl ?_
  refine T_getr (b := 74) dX11_init_231 lfX11_9 rfl rfl (Nat.le_of_ble_eq_true rfl) rfl ?_
  refine T_const dX11_init_234 ?_
  refine T_iload dX11_init_236 rfl ?_
  refine T_iadd dX11_init_237 ?_
  refine T_const dX11_init_238 ?_
  refine T_iastN (N := 172) (i := 144) dX11_init_239 rfl (Nat.le_of_ble_eq_true rfl) rfl (by decide) (by decide) (by decide) ?_
  show TK _ _ _ _ _ Sh209 He232 _ _ _ _
  refine T_iinc dX11_init_240 rfl ?_
  show TK _ _ _ _ _ _ _ _ _ [.ref 73, .int (nI 41)] _
  refine T_goto dX11_init_243 ?_
  refine T_iload dX11_init_224 rfl ?_
  refine T_const dX11_init_225 ?_
  refine T_icmp_ge dX11_init_227 (fun z => absurd z (by decide)) (fun _ => ?_)
  refine T_aload dX11_init_230 rfl ?_
  refine T_getr (b := 74) dX11_init_231 lfX11_9 rfl rfl (Nat.le_of_ble_eq_true rfl) rfl ?_
  refine T_const dX11_init_234 ?_
  refine T_iload dX11_init_236 rfl ?_
  refine T_iadd dX11_init_237 ?_
  refine T_const dX11_init_238 ?_
  refine T_iastN (N := 172) (i := 145) dX11_init_239 rfl (Nat.le_of_ble_eq_true rfl) rfl (by decide) (by decide) (by decide) ?_
  show TK _ _ _ _ _ Sh209 He233 _ _ _ _
  refine T_iinc dX11_init_240 rfl ?_
  show TK _ _ _ _ _ _ _ _ _ [.ref 73, .int (nI 42)] _
  refine T_goto dX11_init_243 ?_
  refine T_iload dX11_init_224 rfl ?_
  refine T_const dX11_init_225 ?_
  refine T_icmp_ge dX11_init_227 (fun z => absurd z (by decide)) (fun _ => ?_)
  refine T_aload dX11_init_230 rfl ?_
  refine T_getr (b := 74) dX11_init_231 lfX11_9 rfl rfl (Nat.le_of_ble_eq_true rfl) rfl ?_
  refine T_const dX11_init_234 ?_
  refine T_iload dX11_init_236 rfl ?_
  refine T_iadd dX11_init_237 ?_
  refine T_const dX11_init_238 ?_
  refine T_iastN (N := 172) (i := 146) dX11_init_239 rfl (Nat.le_of_ble_eq_true rfl) rfl (by decide) (by decide) (by decide) ?_
  show TK _ _ _ _ _ Sh209 He234 _ _ _ _
  refine T_iinc dX11_init_240 rfl ?_
  show TK _ _ _ _ _ _ _ _ _ [.ref 73, .int (nI 43)] _
  refine T_goto dX11_init_243 ?_
  refine T_iload dX11_init_224 rfl ?_
  refine T_const dX11_init_225 ?_
  refine T_icmp_ge dX11_init_227 (fun z => absurd z (by decide)) (fun _ => ?_)
  refine T_aload dX11_init_230 rfl ?_
  refine T_getr (b := 74) dX11_init_231 lfX11_9 rfl rfl (Nat.le_of_ble_eq_true rfl) rfl ?_
  refine T_const dX11_init_234 ?_
  refine T_iload dX11_init_236 rfl ?_
  refine T_iadd dX11_init_237 ?_
  refine T_const dX11_init_238 ?_
  refine T_iastN (N := 172) (i := 147) dX11_init_239 rfl (Nat.le_of_ble_eq_true rfl) rfl (by decide) (by decide) (by decide) ?_
  show TK _ _ _ _ _ Sh209 He235 _ _ _ _
  refine T_iinc dX11_init_240 rfl ?_
  show TK _ _ _ _ _ _ _ _ _ [.ref 73, .int (nI 44)] _
  refine T_goto dX11_init_243 ?_
  refine T_iload dX11_init_224 rfl ?_
  refine T_const dX11_init_225 ?_
  refine T_icmp_ge dX11_init_227 (fun z => absurd z (by decide)) (fun _ => ?_)
  refine T_aload dX11_init_230 rfl ?_
  refine T_getr (b := 74) dX11_init_231 lfX11_9 rfl rfl (Nat.le_of_ble_eq_true rfl) rfl ?_
  refine T_const dX11_init_234 ?_
  refine T_iload dX11_init_236 rfl ?_
  refine T_iadd dX11_init_237 ?_
  refine T_const dX11_init_238 ?_
  refine T_iastN (N := 172) (i := 148) dX11_init_239 rfl (Nat.le_of_ble_eq_true rfl) rfl (by decide) (by decide) (by decide) ?_
  show TK _ _ _ _ _ Sh209 He236 _ _ _ _
  refine T_iinc dX11_init_240 rfl ?_
  show TK _ _ _ _ _ _ _ _ _ [.ref 73, .int (nI 45)] _
  refine T_goto dX11_init_243 ?_
  refine T_iload dX11_init_224 rfl ?_
  refine T_const dX11_init_225 ?_
  refine T_icmp_ge dX11_init_227 (fun z => absurd z (by decide)) (fun _ => ?_)
  refine T_aload dX11_init_230 rfl ?_
  refine T_getr (b := 74) dX11_init_231 lfX11_9 rfl rfl (Nat.le_of_ble_eq_true rfl) rfl ?_
  refine T_const dX11_init_234 ?_
  refine T_iload dX11_init_236 rfl ?_
  refine T_iadd dX11_init_237 ?_
  refine T_const dX11_init_238 ?_
  refine T_iastN (N := 172) (i := 149) dX11_init_239 rfl (Nat.le_of_ble_eq_true rfl) rfl (by decide) (by decide) (by decide) ?_
  show TK _ _ _ _ _ Sh209 He237 _ _ _ _
  refine T_iinc dX11_init_240 rfl ?_
  show TK _ _ _ _ _ _ _ _ _ [.ref 73, .int (nI 46)] _
  refine T_goto dX11_init_243 ?_
  refine T_iload dX11_init_224 rfl ?_
  refine T_const dX11_init_225 ?_
  refine T_icmp_ge dX11_init_227 (fun z => absurd z (by decide)) (fun _ => ?_)
  refine T_aload dX11_init_230 rfl ?_
  refine T_getr (b := 74) dX11_init_231 lfX11_9 rfl rfl (Nat.le_of_ble_eq_true rfl) rfl ?_
  refine T_const dX11_init_234 ?_
  refine T_iload dX11_init_236 rfl ?_
  refine T_iadd dX11_init_237 ?_
  refine T_const dX11_init_238 ?_
  refine T_iastN (N := 172) (i := 150) dX11_init_239 rfl (Nat.le_of_ble_eq_true rfl) rfl (by decide) (by decide) (by decide) ?_
  show TK _ _ _ _ _ Sh209 He238 _ _ _ _
  refine T_iinc dX11_init_240 rfl ?_
  show TK _ _ _ _ _ _ _ _ _ [.ref 73, .int (nI 47)] _
  refine T_goto dX11_init_243 ?_
  refine T_iload dX11_init_224 rfl ?_
  refine T_const dX11_init_225 ?_
  refine T_icmp_ge dX11_init_227 (fun z => absurd z (by decide)) (fun _ => ?_)
  refine T_aload dX11_init_230 rfl ?_
  refine T_getr (b := 74) dX11_init_231 lfX11_9 rfl rfl (Nat.le_of_ble_eq_true rfl) rfl ?_
  refine T_const dX11_init_234 ?_
  refine T_iload dX11_init_236 rfl ?_
  refine T_iadd dX11_init_237 ?_
  refine T_const dX11_init_238 ?_
  refine T_iastN (N := 172) (i := 151) dX11_init_239 rfl (Nat.le_of_ble_eq_true rfl) rfl (by decide) (by decide) (by decide) ?_
  show TK _ _ _ _ _ Sh209 He239 _ _ _ _
  refine T_iinc dX11_init_240 rfl ?_
  show TK _ _ _ _ _ _ _ _ _ [.ref 73, .int (nI 48)] _
  refine T_goto dX11_init_243 ?_
  refine T_iload dX11_init_224 rfl ?_
  refine T_const dX11_init_225 ?_
  refine T_icmp_ge dX11_init_227 (fun z => absurd z (by decide)) (fun _ => ?_)
  refine T_aload dX11_init_230 rfl ?_
  refine T_getr (b := 74) dX11_init_231 lfX11_9 rfl rfl (Nat.le_of_ble_eq_true rfl) rfl ?_
  refine T_const dX11_init_234 ?_
  refine T_iload dX11_init_236 rfl ?_
  refine T_iadd dX11_init_237 ?_
  refine T_const dX11_init_238 ?_
  refine T_iastN (N := 172) (i := 152) dX11_init_239 rfl (Nat.le_of_ble_eq_true rfl) rfl (by decide) (by decide) (by decide) ?_
  show TK _ _ _ _ _ Sh209 He240 _ _ _ _
  refine T_iinc dX11_init_240 rfl ?_
  show TK _ _ _ _ _ _ _ _ _ [.ref 73, .int (nI 49)] _
  refine T_goto dX11_init_243 ?_
  refine T_iload dX11_init_224 rfl ?_
  refine T_const dX11_init_225 ?_
  refine T_icmp_ge dX11_init_227 (fun z => absurd z (by decide)) (fun _ => ?_)
  refine T_aload dX11_init_230 rfl ?_
  refine T_getr (b := 74) dX11_init_231 lfX11_9 rfl rfl (Nat.le_of_ble_eq_true rfl) rfl ?_
  refine T_const dX11_init_234 ?_
  refine T_iload dX11_init_236 rfl ?_
  refine T_iadd dX11_init_237 ?_
  refine T_const dX11_init_238 ?_
  refine T_iastN (N := 172) (i := 153) dX11_init_239 rfl (Nat.le_of_ble_eq_true rfl) rfl (by decide) (by decide) (by decide) ?_
  show TK _ _ _ _ _ Sh209 He241 _ _ _ _
  refine T_iinc dX11_init_240 rfl ?_
  show TK _ _ _ _ _ _ _ _ _ [.ref 73, .int (nI 50)] _
  refine T_goto dX11_init_243 ?_
  refine T_iload dX11_init_224 rfl ?_
  refine T_const dX11_init_225 ?_
  refine T_icmp_ge dX11_init_227 (fun z => absurd z (by decide)) (fun _ => ?_)
  refine T_aload dX11_init_230 rfl ?_
  refine T_getr (b := 74) dX11_init_231 lfX11_9 rfl rfl (Nat.le_of_ble_eq_true rfl) rfl ?_
  refine T_const dX11_init_234 ?_
  refine T_iload dX11_init_236 rfl ?_
  refine T_iadd dX11_init_237 ?_
  refine T_const dX11_init_238 ?_
  refine T_iastN (N := 172) (i := 154) dX11_init_239 rfl (Nat.le_of_ble_eq_true rfl) rfl (by decide) (by decide) (by decide) ?_
  show TK _ _ _ _ _ Sh209 He242 _ _ _ _
  refine T_iinc dX11_init_240 rfl ?_
  show TK _ _ _ _ _ _ _ _ _ [.ref 73, .int (nI 51)] _
  refine T_goto dX11_init_243 ?_
  refine T_iload dX11_init_224 rfl ?_
  refine T_const dX11_init_225 ?_
  refine T_icmp_ge dX11_init_227 (fun z => absurd z (by decide)) (fun _ => ?_)
  refine T_aload dX11_init_230 rfl ?_
  refine T_getr (b := 74) dX11_init_231 lfX11_9 rfl rfl (Nat.le_of_ble_eq_true rfl) rfl ?_
  refine T_const dX11_init_234 ?_
  refine T_iload dX11_init_236 rfl ?_
  refine T_iadd dX11_init_237 ?_
  refine T_const dX11_init_238 ?_
  refine T_iastN (N := 172) (i := 155) dX11_init_239 rfl (Nat.le_of_ble_eq_true rfl) rfl (by decide) (by decide) (by decide) ?_
  show TK _ _ _ _ _ Sh209 He243 _ _ _ _
  refine T_iinc dX11_init_240 rfl ?_
  show TK _ _ _ _ _ _ _ _ _ [.ref 73, .int (nI 52)] _
  refine T_goto dX11_init_243 ?_
  refine T_iload dX11_init_224 rfl ?_
  refine T_const dX11_init_225 ?_
  refine T_icmp_ge dX11_init_227 (fun z => absurd z (by decide)) (fun _ => ?_)
  refine T_aload dX11_init_230 rfl ?_
  refine T_getr (b := 74) dX11_init_231 lfX11_9 rfl rfl (Nat.le_of_ble_eq_true rfl) rfl ?_
  refine T_const dX11_init_234 ?_
  refine T_iload dX11_init_236 rfl ?_
  refine T_iadd dX11_init_237 ?_
  refine T_const dX11_init_238 ?_
  refine T_iastN (N := 172) (i := 156) dX11_init_239 rfl (Nat.le_of_ble_eq_true rfl) rfl (by decide) (by decide) (by decide) ?_
  show TK _ _ _ _ _ Sh209 He244 _ _ _ _
  refine T_iinc dX11_init_240 rfl ?_
  show TK _ _ _ _ _ _ _ _ _ [.ref 73, .int (nI 53)] _
  refine T_goto dX11_init_243 ?_
  refine T_iload dX11_init_224 rfl ?_
  refine T_const dX11_init_225 ?_
  refine T_icmp_ge dX11_init_227 (fun z => absurd z (by decide)) (fun _ => ?_)
  refine T_aload dX11_init_230 rfl ?_
  refine T_getr (b := 74) dX11_init_231 lfX11_9 rfl rfl (Nat.le_of_ble_eq_true rfl) rfl ?_
  refine T_const dX11_init_234 ?_
  refine T_iload dX11_init_236 rfl ?_
  refine T_iadd dX11_init_237 ?_
  refine T_const dX11_init_238 ?_
  refine T_iastN (N := 172) (i := 157) dX11_init_239 rfl (Nat.le_of_ble_eq_true rfl) rfl (by decide) (by decide) (by decide) ?_
  show TK _ _ _ _ _ Sh209 He245 _ _ _ _
  refine T_iinc dX11_init_240 rfl ?_
  show TK _ _ _ _ _ _ _ _ _ [.ref 73, .int (nI 54)] _
  refine T_goto dX11_init_243 ?_
  refine T_iload dX11_init_224 rfl ?_
  refine T_const dX11_init_225 ?_
  refine T_icmp_ge dX11_init_227 (fun z => absurd z (by decide)) (fun _ => ?_)
  refine T_aload dX11_init_230 rfl ?_
  refine T_getr (b := 74) dX11_init_231 lfX11_9 rfl rfl (Nat.le_of_ble_eq_true rfl) rfl ?_
  refine T_const dX11_init_234 ?_
  refine T_iload dX11_init_236 rfl ?_
  refine T_iadd dX11_init_237 ?_
  refine T_const dX11_init_238 ?_
  refine T_iastN (N := 172) (i := 158) dX11_init_239 rfl (Nat.le_of_ble_eq_true rfl) rfl (by decide) (by decide) (by decide) ?_
  show TK _ _ _ _ _ Sh209 He246 _ _ _ _
  refine T_iinc dX11_init_240 rfl ?_
  show TK _ _ _ _ _ _ _ _ _ [.ref 73, .int (nI 55)] _
  refine T_goto dX11_init_243 ?_
  refine T_iload dX11_init_224 rfl ?_
  refine T_const dX11_init_225 ?_
  refine T_icmp_ge dX11_init_227 (fun z => absurd z (by decide)) (fun _ => ?_)
  refine T_aload dX11_init_230 rfl ?_
  refine T_getr (b := 74) dX11_init_231 lfX11_9 rfl rfl (Nat.le_of_ble_eq_true rfl) rfl ?_
  refine T_const dX11_init_234 ?_
  refine T_iload dX11_init_236 rfl ?_
  refine T_iadd dX11_init_237 ?_
  refine T_const dX11_init_238 ?_
  refine T_iastN (N := 172) (i := 159) dX11_init_239 rfl (Nat.le_of_ble_eq_true rfl) rfl (by decide) (by decide) (by decide) ?_
  show TK _ _ _ _ _ Sh209 He247 _ _ _ _
  refine T_iinc dX11_init_240 rfl ?_
  show TK _ _ _ _ _ _ _ _ _ [.ref 73, .int (nI 56)] _
  refine T_goto dX11_init_243 ?_
  refine T_iload dX11_init_224 rfl ?_
  refine T_const dX11_init_225 ?_
  refine T_icmp_ge dX11_init_227 (fun z => absurd z (by decide)) (fun _ => ?_)
  refine T_aload dX11_init_230 rfl ?_
  refine T_getr (b := 74) dX11_init_231 lfX11_9 rfl rfl (Nat.le_of_ble_eq_true rfl) rfl ?_
  refine T_const dX11_init_234 ?_
  refine T_iload dX11_init_236 rfl ?_
  refine T_iadd dX11_init_237 ?_
  refine T_const dX11_init_238 ?_
  refine T_iastN (N := 172) (i := 160) dX11_init_239 rfl (Nat.le_of_ble_eq_true rfl) rfl (by decide) (by decide) (by decide) ?_
  show TK _ _ _ _ _ Sh209 He248 _ _ _ _
  refine T_iinc dX11_init_240 rfl ?_
  show TK _ _ _ _ _ _ _ _ _ [.ref 73, .int (nI 57)] _
  refine T_goto dX11_init_243 ?_
  refine T_iload dX11_init_224 rfl ?_
  refine T_const dX11_init_225 ?_
  refine T_icmp_ge dX11_init_227 (fun z => absurd z (by decide)) (fun _ => ?_)
  refine T_aload dX11_init_230 rfl ?_
  refine T_getr (b := 74) dX11_init_231 lfX11_9 rfl rfl (Nat.le_of_ble_eq_true rfl) rfl ?_
  refine T_const dX11_init_234 ?_
  refine T_iload dX11_init_236 rfl ?_
  refine T_iadd dX11_init_237 ?_
  refine T_const dX11_init_238 ?_
  refine T_iastN (N := 172) (i := 161) dX11_init_239 rfl (Nat.le_of_ble_eq_true rfl) rfl (by decide) (by decide) (by decide) ?_
  show TK _ _ _ _ _ Sh209 He249 _ _ _ _
  refine T_iinc dX11_init_240 rfl ?_
  show TK _ _ _ _ _ _ _ _ _ [.ref 73, .int (nI 58)] _
  refine T_goto dX11_init_243 ?_
  refine T_iload dX11_init_224 rfl ?_
  refine T_const dX11_init_225 ?_
  refine T_icmp_ge dX11_init_227 (fun z => absurd z (by decide)) (fun _ => ?_)
  refine T_aload dX11_init_230 rfl ?_
  refine T_getr (b := 74) dX11_init_231 lfX11_9 rfl rfl (Nat.le_of_ble_eq_true rfl) rfl ?_
  refine T_const dX11_init_234 ?_
  refine T_iload dX11_init_236 rfl ?_
  refine T_iadd dX11_init_237 ?_
  refine T_const dX11_init_238 ?_
  refine T_iastN (N := 172) (i := 162) dX11_init_239 rfl (Nat.le_of_ble_eq_true rfl) rfl (by decide) (by decide) (by decide) ?_
  show TK _ _ _ _ _ Sh209 He250 _ _ _ _
  refine T_iinc dX11_init_240 rfl ?_
  show TK _ _ _ _ _ _ _ _ _ [.ref 73, .int (nI 59)] _
  refine T_goto dX11_init_243 ?_
  refine T_iload dX11_init_224 rfl ?_
  refine T_const dX11_init_225 ?_
  refine T_icmp_ge dX11_init_227 (fun z => absurd z (by decide)) (fun _ => ?_)
  refine T_aload dX11_init_230 rfl ?_
  refine T_getr (b := 74) dX11_init_231 lfX11_9 rfl rfl (Nat.le_of_ble_eq_true rfl) rfl ?_
  refine T_const dX11_init_234 ?_
  refine T_iload dX11_init_236 rfl ?_
  refine T_iadd dX11_init_237 ?_
  refine T_const dX11_init_238 ?_
  refine T_iastN (N := 172) (i := 163) dX11_init_239 rfl (Nat.le_of_ble_eq_true rfl) rfl (by decide) (by decide) (by decide) ?_
  show TK _ _ _ _ _ Sh209 He251 _ _ _ _
  refine T_iinc dX11_init_240 rfl ?_
  show TK _ _ _ _ _ _ _ _ _ [.ref 73, .int (nI 60)] _
  refine T_goto dX11_init_243 ?_
  refine T_iload dX11_init_224 rfl ?_
  refine T_const dX11_init_225 ?_
  refine T_icmp_ge dX11_init_227 (fun z => absurd z (by decide)) (fun _ => ?_)
  refine T_aload dX11_init_230 rfl ?_
  refine T_getr (b := 74) dX11_init_231 lfX11_9 rfl rfl (Nat.le_of_ble_eq_true rfl) rfl ?_
  refine T_const dX11_init_234 ?_
  refine T_iload dX11_init_236 rfl ?_
  refine T_iadd dX11_init_237 ?_
  refine T_const dX11_init_238 ?_
  refine T_iastN (N := 172) (i := 164) dX11_init_239 rfl (Nat.le_of_ble_eq_true rfl) rfl (by decide) (by decide) (by decide) ?_
  show TK _ _ _ _ _ Sh209 He252 _ _ _ _
  refine T_iinc dX11_init_240 rfl ?_
  show TK _ _ _ _ _ _ _ _ _ [.ref 73, .int (nI 61)] _
  refine T_goto dX11_init_243 ?_
  refine T_iload dX11_init_224 rfl ?_
  refine T_const dX11_init_225 ?_
  refine T_icmp_ge dX11_init_227 (fun z => absurd z (by decide)) (fun _ => ?_)
  refine T_aload dX11_init_230 rfl ?_
  refine T_getr (b := 74) dX11_init_231 lfX11_9 rfl rfl (Nat.le_of_ble_eq_true rfl) rfl ?_
  refine T_const dX11_init_234 ?_
  refine T_iload dX11_init_236 rfl ?_
  refine T_iadd dX11_init_237 ?_
  refine T_const dX11_init_238 ?_
  refine T_iastN (N := 172) (i := 165) dX11_init_239 rfl (Nat.le_of_ble_eq_true rfl) rfl (by decide) (by decide) (by decide) ?_
  show TK _ _ _ _ _ Sh209 He253 _ _ _ _
  refine T_iinc dX11_init_240 rfl ?_
  show TK _ _ _ _ _ _ _ _ _ [.ref 73, .int (nI 62)] _
  refine T_goto dX11_init_243 ?_
  refine T_iload dX11_init_224 rfl ?_
  refine T_const dX11_init_225 ?_
  refine T_icmp_ge dX11_init_227 (fun z => absurd z (by decide)) (fun _ => ?_)
  refine T_aload dX11_init_230 rfl ?_
  refine T_getr (b := 74) dX11_init_231 lfX11_9 rfl rfl (Nat.le_of_ble_eq_true rfl) rfl ?_
  refine T_const dX11_init_234 ?_
  refine T_iload dX11_init_236 rfl ?_
  refine T_iadd dX11_init_237 ?_
  refine T_const dX11_init_238 ?_
  refine T_iastN (N := 172) (i := 166) dX11_init_239 rfl (Nat.le_of_ble_eq_true rfl) rfl (by decide) (by decide) (by decide) ?_
  show TK _ _ _ _ _ Sh209 He254 _ _ _ _
  refine T_iinc dX11_init_240 rfl ?_
  show TK _ _ _ _ _ _ _ _ _ [.ref 73, .int (nI 63)] _
  refine T_goto dX11_init_243 ?_
  refine T_iload dX11_init_224 rfl ?_
  refine T_const dX11_init_225 ?_
  refine T_icmp_ge dX11_init_227 (fun z => absurd z (by decide)) (fun _ => ?_)
  refine T_aload dX11_init_230 rfl ?_
  refine T_getr (b := 74) dX11_init_231 lfX11_9 rfl rfl (Nat.le_of_ble_eq_true rfl) rfl ?_
  refine T_const dX11_init_234 ?_
  refine T_iload dX11_init_236 rfl ?_
  refine T_iadd dX11_init_237 ?_
  refine T_const dX11_init_238 ?_
  refine T_iastN (N := 172) (i := 167) dX11_init_239 rfl (Nat.le_of_ble_eq_true rfl) rfl (by decide) (by decide) (by decide) ?_
  show TK _ _ _ _ _ Sh209 He255 _ _ _ _
  refine T_iinc dX11_init_240 rfl ?_
  show TK _ _ _ _ _ _ _ _ _ [.ref 73, .int (nI 64)] _
  refine T_goto dX11_init_243 ?_
  refine T_iload dX11_init_224 rfl ?_
  refine T_const dX11_init_225 ?_
  refine T_icmp_ge dX11_init_227 (fun _ => ?_) (fun z => absurd (by decide) z)
  refine T_aload dX11_init_246 rfl ?_
  refine T_getr (b := 74) dX11_init_247 lfX11_9 rfl rfl (Nat.le_of_ble_eq_true rfl) rfl ?_
  refine T_const dX11_init_250 ?_
  refine T_const dX11_init_253 ?_
  refine T_iastN (N := 172) (i := 168) dX11_init_255 rfl (Nat.le_of_ble_eq_true rfl) rfl (by decide) (by decide) (by decide) ?_
  show TK _ _ _ _ _ Sh209 He256 _ _ _ _
  refine T_aload dX11_init_256 rfl ?_
  refine T_getr (b := 74) dX11_init_257 lfX11_9 rfl rfl (Nat.le_of_ble_eq_true rfl) rfl ?_
  refine T_const dX11_init_260 ?_
  refine T_const dX11_init_263 ?_
  refine T_iastN (N := 172) (i := 169) dX11_init_265 rfl (Nat.le_of_ble_eq_true rfl) rfl (by decide) (by decide) (by decide) ?_
  show TK _ _ _ _ _ Sh209 He257 _ _ _ _
  refine T_aload dX11_init_266 rfl ?_
  refine T_getr (b := 74) dX11_init_267 lfX11_9 rfl rfl (Nat.le_of_ble_eq_true rfl) rfl ?_
  refine T_const dX11_init_270 ?_
  refine T_const dX11_init_273 ?_
  refine T_iastN (N := 172) (i := 170) dX11_init_274 rfl (Nat.le_of_ble_eq_true rfl) rfl (by decide) (by decide) (by decide) ?_
  show TK _ _ _ _ _ Sh209 He258 _ _ _ _
  refine T_aload dX11_init_275 rfl ?_
  refine T_getr (b := 74) dX11_init_276 lfX11_9 rfl rfl (Nat.le_of_ble_eq_true rfl) rfl ?_
  refine T_const dX11_init_279 ?_
  refine T_const dX11_init_282 ?_
  refine T_iastN (N := 172) (i := 171) dX11_init_283 rfl (Nat.le_of_ble_eq_true rfl) rfl (by decide) (by decide) (by decide) ?_
  show TK _ _ _ _ _ Sh209 He259 _ _ _ _
  exact T_vret dX11_init_284 ⟨⟨rfl, rfl, rfl⟩, rfl⟩
