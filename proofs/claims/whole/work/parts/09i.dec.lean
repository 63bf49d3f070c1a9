set_option maxRecDepth 100000 in
theorem ai_mc0 : ai_mc 0 0 ai_m0 = true := by decide +kernel
set_option maxRecDepth 100000 in
theorem ai_mc1 : ai_mc 0 1 ai_m1 = true := by decide +kernel
set_option maxRecDepth 100000 in
theorem ai_mc2 : ai_mc 0 2 ai_m2 = true := by decide +kernel
set_option maxRecDepth 100000 in
theorem ai_mc3 : ai_mc 0 3 ai_m3 = true := by decide +kernel
set_option maxRecDepth 100000 in
theorem ai_mc4 : ai_mc 0 4 ai_m4 = true := by decide +kernel
set_option maxRecDepth 100000 in
theorem ai_mc5 : ai_mc 0 5 ai_m5 = true := by decide +kernel
set_option maxRecDepth 100000 in
theorem ai_mc6 : ai_mc 0 6 ai_m6 = true := by decide +kernel
set_option maxRecDepth 100000 in
theorem ai_mc7 : ai_mc 0 7 ai_m7 = true := by decide +kernel
set_option maxRecDepth 100000 in
theorem ai_mc8 : ai_mc 0 8 ai_m8 = true := by decide +kernel
set_option maxRecDepth 100000 in
theorem ai_mc9 : ai_mc 0 9 ai_m9 = true := by decide +kernel
set_option maxRecDepth 100000 in
theorem ai_mc10 : ai_mc 0 10 ai_m10 = true := by decide +kernel
set_option maxRecDepth 100000 in
theorem ai_mc11 : ai_mc 0 11 ai_m11 = true := by decide +kernel
set_option maxRecDepth 100000 in
theorem ai_mc12 : ai_mc 1 12 ai_m12 = true := by decide +kernel
set_option maxRecDepth 100000 in
theorem ai_mc13 : ai_mc 1 13 ai_m13 = true := by decide +kernel
set_option maxRecDepth 100000 in
theorem ai_mc14 : ai_mc 1 14 ai_m14 = true := by decide +kernel
set_option maxRecDepth 100000 in
theorem ai_mc15 : ai_mc 1 15 ai_m15 = true := by decide +kernel
set_option maxRecDepth 100000 in
theorem ai_mc16 : ai_mc 1 16 ai_m16 = true := by decide +kernel
set_option maxRecDepth 100000 in
theorem ai_mc17 : ai_mc 1 17 ai_m17 = true := by decide +kernel
set_option maxRecDepth 100000 in
theorem ai_mc18 : ai_mc 2 18 ai_m18 = true := by decide +kernel
set_option maxRecDepth 100000 in
theorem ai_mc19 : ai_mc 2 19 ai_m19 = true := by decide +kernel
set_option maxRecDepth 100000 in
theorem ai_mc20 : ai_mc 3 20 ai_m20 = true := by decide +kernel
set_option maxRecDepth 100000 in
theorem ai_mc21 : ai_mc 3 21 ai_m21 = true := by decide +kernel
set_option maxRecDepth 100000 in
theorem ai_mc22 : ai_mc 3 22 ai_m22 = true := by decide +kernel
set_option maxRecDepth 100000 in
theorem ai_mc23 : ai_mc 3 23 ai_m23 = true := by decide +kernel
set_option maxRecDepth 100000 in
theorem ai_mc24 : ai_mc 3 24 ai_m24 = true := by decide +kernel
set_option maxRecDepth 100000 in
theorem ai_mc25 : ai_mc 3 25 ai_m25 = true := by decide +kernel
set_option maxRecDepth 100000 in
theorem ai_mc26 : ai_mc 3 26 ai_m26 = true := by decide +kernel
set_option maxRecDepth 100000 in
theorem ai_mc27 : ai_mc 3 27 ai_m27 = true := by decide +kernel
set_option maxRecDepth 100000 in
theorem ai_mc28 : ai_mc 3 28 ai_m28 = true := by decide +kernel
set_option maxRecDepth 100000 in
theorem ai_mc29 : ai_mc 3 29 ai_m29 = true := by decide +kernel
set_option maxRecDepth 100000 in
theorem ai_mc30 : ai_mc 4 30 ai_m30 = true := by decide +kernel
set_option maxRecDepth 100000 in
theorem ai_mc31 : ai_mc 4 31 ai_m31 = true := by decide +kernel
set_option maxRecDepth 100000 in
theorem ai_mc32 : ai_mc 4 32 ai_m32 = true := by decide +kernel
set_option maxRecDepth 100000 in
theorem ai_mc33 : ai_mc 4 33 ai_m33 = true := by decide +kernel
set_option maxRecDepth 100000 in
theorem ai_mc34 : ai_mc 4 34 ai_m34 = true := by decide +kernel
set_option maxRecDepth 100000 in
theorem ai_mc35 : ai_mc 4 35 ai_m35 = true := by decide +kernel
set_option maxRecDepth 100000 in
theorem ai_mc36 : ai_mc 5 36 ai_m36 = true := by decide +kernel
set_option maxRecDepth 100000 in
theorem ai_mc37 : ai_mc 5 37 ai_m37 = true := by decide +kernel
set_option maxRecDepth 100000 in
theorem ai_mc38 : ai_mc 5 38 ai_m38 = true := by decide +kernel
set_option maxRecDepth 100000 in
theorem ai_mc39 : ai_mc 5 39 ai_m39 = true := by decide +kernel
set_option maxRecDepth 100000 in
theorem ai_mc40 : ai_mc 5 40 ai_m40 = true := by decide +kernel
set_option maxRecDepth 100000 in
theorem ai_mc41 : ai_mc 5 41 ai_m41 = true := by decide +kernel
set_option maxRecDepth 100000 in
theorem ai_mc42 : ai_mc 5 42 ai_m42 = true := by decide +kernel
set_option maxRecDepth 100000 in
theorem ai_mc43 : ai_mc 6 43 ai_m43 = true := by decide +kernel
set_option maxRecDepth 100000 in
theorem ai_mc44 : ai_mc 6 44 ai_m44 = true := by decide +kernel
set_option maxRecDepth 100000 in
theorem ai_mc45 : ai_mc 6 45 ai_m45 = true := by decide +kernel
set_option maxRecDepth 100000 in
theorem ai_mc46 : ai_mc 6 46 ai_m46 = true := by decide +kernel
set_option maxRecDepth 100000 in
theorem ai_mc47 : ai_mc 6 47 ai_m47 = true := by decide +kernel
set_option maxRecDepth 100000 in
theorem ai_mc48 : ai_mc 6 48 ai_m48 = true := by decide +kernel
set_option maxRecDepth 100000 in
theorem ai_mc49 : ai_mc 6 49 ai_m49 = true := by decide +kernel
set_option maxRecDepth 100000 in
theorem ai_mc50 : ai_mc 7 50 ai_m50 = true := by decide +kernel
set_option maxRecDepth 100000 in
theorem ai_mc51 : ai_mc 7 51 ai_m51 = true := by decide +kernel
set_option maxRecDepth 100000 in
theorem ai_mc52 : ai_mc 7 52 ai_m52 = true := by decide +kernel
set_option maxRecDepth 100000 in
theorem ai_mc53 : ai_mc 7 53 ai_m53 = true := by decide +kernel
set_option maxRecDepth 100000 in
theorem ai_mc54 : ai_mc 7 54 ai_m54 = true := by decide +kernel
set_option maxRecDepth 100000 in
theorem ai_mc55 : ai_mc 7 55 ai_m55 = true := by decide +kernel
set_option maxRecDepth 100000 in
theorem ai_mc56 : ai_mc 7 56 ai_m56 = true := by decide +kernel
set_option maxRecDepth 100000 in
theorem ai_mc57 : ai_mc 7 57 ai_m57 = true := by decide +kernel
set_option maxRecDepth 100000 in
theorem ai_mc58 : ai_mc 7 58 ai_m58 = true := by decide +kernel
set_option maxRecDepth 100000 in
theorem ai_mc59 : ai_mc 7 59 ai_m59 = true := by decide +kernel
set_option maxRecDepth 100000 in
theorem ai_mc60 : ai_mc 7 60 ai_m60 = true := by decide +kernel
set_option maxRecDepth 100000 in
theorem ai_mc61 : ai_mc 7 61 ai_m61 = true := by decide +kernel
set_option maxRecDepth 100000 in
theorem ai_mc62 : ai_mc 7 62 ai_m62 = true := by decide +kernel
set_option maxRecDepth 100000 in
theorem ai_mc63 : ai_mc 7 63 ai_m63 = true := by decide +kernel
set_option maxRecDepth 100000 in
theorem ai_mc64 : ai_mc 7 64 ai_m64 = true := by decide +kernel
set_option maxRecDepth 100000 in
theorem ai_mc65 : ai_mc 7 65 ai_m65 = true := by decide +kernel
set_option maxRecDepth 100000 in
theorem ai_mc66 : ai_mc 7 66 ai_m66 = true := by decide +kernel
set_option maxRecDepth 100000 in
theorem ai_mc67 : ai_mc 7 67 ai_m67 = true := by decide +kernel
set_option maxRecDepth 100000 in
theorem ai_mc68 : ai_mc 7 68 ai_m68 = true := by decide +kernel
set_option maxRecDepth 100000 in
theorem ai_mc70 : ai_mc 7 70 ai_m70 = true := by decide +kernel
set_option maxRecDepth 100000 in
theorem ai_mc71 : ai_mc 8 71 ai_m71 = true := by decide +kernel
set_option maxRecDepth 100000 in
theorem ai_mc72 : ai_mc 8 72 ai_m72 = true := by decide +kernel
set_option maxRecDepth 100000 in
theorem ai_mc73 : ai_mc 9 73 ai_m73 = true := by decide +kernel
set_option maxRecDepth 100000 in
theorem ai_mc74 : ai_mc 9 74 ai_m74 = true := by decide +kernel
set_option maxRecDepth 100000 in
theorem ai_mc75 : ai_mc 9 75 ai_m75 = true := by decide +kernel
set_option maxRecDepth 100000 in
theorem ai_mc76 : ai_mc 9 76 ai_m76 = true := by decide +kernel
set_option maxRecDepth 100000 in
theorem ai_mc77 : ai_mc 9 77 ai_m77 = true := by decide +kernel
set_option maxRecDepth 100000 in
theorem ai_mc78 : ai_mc 9 78 ai_m78 = true := by decide +kernel
set_option maxRecDepth 100000 in
theorem ai_mc79 : ai_mc 10 79 ai_m79 = true := by decide +kernel
set_option maxRecDepth 100000 in
theorem ai_mc80 : ai_mc 10 80 ai_m80 = true := by decide +kernel
set_option maxRecDepth 100000 in
theorem ai_mc81 : ai_mc 10 81 ai_m81 = true := by decide +kernel
set_option maxRecDepth 100000 in
theorem ai_mc82 : ai_mc 10 82 ai_m82 = true := by decide +kernel
set_option maxRecDepth 100000 in
theorem ai_mc83 : ai_mc 10 83 ai_m83 = true := by decide +kernel
set_option maxRecDepth 100000 in
theorem ai_mc84 : ai_mc 10 84 ai_m84 = true := by decide +kernel
set_option maxRecDepth 100000 in
theorem ai_mc85 : ai_mc 11 85 ai_m85 = true := by decide +kernel
set_option maxRecDepth 100000 in
theorem ai_mc86 : ai_mc 11 86 ai_m86 = true := by decide +kernel
set_option maxRecDepth 100000 in
theorem ai_mc87 : ai_mc 11 87 ai_m87 = true := by decide +kernel
set_option maxRecDepth 100000 in
theorem ai_mc88 : ai_mc 11 88 ai_m88 = true := by decide +kernel
set_option maxRecDepth 100000 in
theorem ai_mc89 : ai_mc 11 89 ai_m89 = true := by decide +kernel
set_option maxRecDepth 100000 in
theorem ai_mc90 : ai_mc 11 90 ai_m90 = true := by decide +kernel
set_option maxRecDepth 100000 in
theorem ai_mc91 : ai_mc 11 91 ai_m91 = true := by decide +kernel
set_option maxRecDepth 100000 in
theorem ai_mc92 : ai_mc 11 92 ai_m92 = true := by decide +kernel
set_option maxRecDepth 100000 in
theorem ai_mc93 : ai_mc 11 93 ai_m93 = true := by decide +kernel
set_option maxRecDepth 100000 in
theorem ai_mc94 : ai_mc 11 94 ai_m94 = true := by decide +kernel
set_option maxRecDepth 100000 in
theorem ai_mc95 : ai_mc 11 95 ai_m95 = true := by decide +kernel
set_option maxRecDepth 100000 in
theorem ai_mc96 : ai_mc 11 96 ai_m96 = true := by decide +kernel
set_option maxRecDepth 100000 in
theorem ai_mc97 : ai_mc 11 97 ai_m97 = true := by decide +kernel
set_option maxRecDepth 100000 in
theorem ai_mc98 : ai_mc 11 98 ai_m98 = true := by decide +kernel
set_option maxRecDepth 100000 in
theorem ai_mc99 : ai_mc 11 99 ai_m99 = true := by decide +kernel
set_option maxRecDepth 100000 in
theorem ai_mc100 : ai_mc 11 100 ai_m100 = true := by decide +kernel
set_option maxRecDepth 100000 in
theorem ai_mc101 : ai_mc 11 101 ai_m101 = true := by decide +kernel
set_option maxRecDepth 100000 in
theorem ai_mc102 : ai_mc 11 102 ai_m102 = true := by decide +kernel
set_option maxRecDepth 100000 in
theorem ai_mc103 : ai_mc 11 103 ai_m103 = true := by decide +kernel
set_option maxRecDepth 100000 in
theorem ai_mc104 : ai_mc 11 104 ai_m104 = true := by decide +kernel
set_option maxRecDepth 100000 in
theorem ai_mc105 : ai_mc 11 105 ai_m105 = true := by decide +kernel
set_option maxRecDepth 100000 in
theorem ai_mc106 : ai_mc 11 106 ai_m106 = true := by decide +kernel
set_option maxRecDepth 100000 in
theorem ai_mc107 : ai_mc 11 107 ai_m107 = true := by decide +kernel
set_option maxRecDepth 100000 in
theorem ai_mc108 : ai_mc 11 108 ai_m108 = true := by decide +kernel
set_option maxRecDepth 100000 in
theorem ai_mc109 : ai_mc 11 109 ai_m109 = true := by decide +kernel
set_option maxRecDepth 100000 in
theorem ai_mc110 : ai_mc 11 110 ai_m110 = true := by decide +kernel
set_option maxRecDepth 100000 in
theorem ai_mc111 : ai_mc 11 111 ai_m111 = true := by decide +kernel
set_option maxRecDepth 100000 in
theorem ai_mc112 : ai_mc 11 112 ai_m112 = true := by decide +kernel
set_option maxRecDepth 100000 in
theorem ai_mc113 : ai_mc 11 113 ai_m113 = true := by decide +kernel
set_option maxRecDepth 100000 in
theorem ai_mc114 : ai_mc 11 114 ai_m114 = true := by decide +kernel
set_option maxRecDepth 100000 in
theorem ai_mc115 : ai_mc 11 115 ai_m115 = true := by decide +kernel
set_option maxRecDepth 100000 in
theorem ai_mc116 : ai_mc 11 116 ai_m116 = true := by decide +kernel
set_option maxRecDepth 100000 in
theorem ai_mc117 : ai_mc 11 117 ai_m117 = true := by decide +kernel
set_option maxRecDepth 100000 in
theorem ai_mc118 : ai_mc 11 118 ai_m118 = true := by decide +kernel
set_option maxRecDepth 100000 in
theorem ai_mc119 : ai_mc 11 119 ai_m119 = true := by decide +kernel
set_option maxRecDepth 100000 in
theorem ai_mc120 : ai_mc 11 120 ai_m120 = true := by decide +kernel
set_option maxRecDepth 100000 in
theorem ai_mc121 : ai_mc 11 121 ai_m121 = true := by decide +kernel
set_option maxRecDepth 100000 in
theorem ai_mc122 : ai_mc 11 122 ai_m122 = true := by decide +kernel
set_option maxRecDepth 100000 in
theorem ai_mc123 : ai_mc 11 123 ai_m123 = true := by decide +kernel
set_option maxRecDepth 100000 in
theorem ai_mc124 : ai_mc 11 124 ai_m124 = true := by decide +kernel
set_option maxRecDepth 100000 in
theorem ai_mc125 : ai_mc 11 125 ai_m125 = true := by decide +kernel
set_option maxRecDepth 100000 in
theorem ai_mc126 : ai_mc 11 126 ai_m126 = true := by decide +kernel
set_option maxRecDepth 100000 in
theorem ai_mc127 : ai_mc 11 127 ai_m127 = true := by decide +kernel
set_option maxRecDepth 100000 in
theorem ai_mc128 : ai_mc 11 128 ai_m128 = true := by decide +kernel
set_option maxRecDepth 100000 in
theorem ai_mc129 : ai_mc 11 129 ai_m129 = true := by decide +kernel
set_option maxRecDepth 100000 in
theorem ai_mc130 : ai_mc 11 130 ai_m130 = true := by decide +kernel
set_option maxRecDepth 100000 in
theorem ai_mc131 : ai_mc 11 131 ai_m131 = true := by decide +kernel
set_option maxRecDepth 100000 in
theorem ai_mc132 : ai_mc 11 132 ai_m132 = true := by decide +kernel
set_option maxRecDepth 100000 in
theorem ai_mc133 : ai_mc 11 133 ai_m133 = true := by decide +kernel
set_option maxRecDepth 100000 in
theorem ai_mc134 : ai_mc 11 134 ai_m134 = true := by decide +kernel
set_option maxRecDepth 100000 in
theorem ai_mc135 : ai_mc 11 135 ai_m135 = true := by decide +kernel
set_option maxRecDepth 100000 in
theorem ai_mc136 : ai_mc 11 136 ai_m136 = true := by decide +kernel
set_option maxRecDepth 100000 in
theorem ai_mc137 : ai_mc 11 137 ai_m137 = true := by decide +kernel
set_option maxRecDepth 100000 in
theorem ai_mc138 : ai_mc 11 138 ai_m138 = true := by decide +kernel
set_option maxRecDepth 100000 in
theorem ai_mc139 : ai_mc 11 139 ai_m139 = true := by decide +kernel
set_option maxRecDepth 100000 in
theorem ai_mc140 : ai_mc 11 140 ai_m140 = true := by decide +kernel
set_option maxRecDepth 100000 in
theorem ai_mc141 : ai_mc 11 141 ai_m141 = true := by decide +kernel
set_option maxRecDepth 100000 in
theorem ai_mc142 : ai_mc 11 142 ai_m142 = true := by decide +kernel
set_option maxRecDepth 100000 in
theorem ai_mc143 : ai_mc 11 143 ai_m143 = true := by decide +kernel
set_option maxRecDepth 100000 in
theorem ai_mc144 : ai_mc 11 144 ai_m144 = true := by decide +kernel
set_option maxRecDepth 100000 in
theorem ai_mc145 : ai_mc 11 145 ai_m145 = true := by decide +kernel
set_option maxRecDepth 100000 in
theorem ai_mc146 : ai_mc 11 146 ai_m146 = true := by decide +kernel
set_option maxRecDepth 100000 in
theorem ai_mc147 : ai_mc 11 147 ai_m147 = true := by decide +kernel
set_option maxRecDepth 100000 in
theorem ai_mc148 : ai_mc 11 148 ai_m148 = true := by decide +kernel
set_option maxRecDepth 100000 in
theorem ai_mc149 : ai_mc 11 149 ai_m149 = true := by decide +kernel
set_option maxRecDepth 100000 in
theorem ai_mc150 : ai_mc 11 150 ai_m150 = true := by decide +kernel
set_option maxRecDepth 100000 in
theorem ai_mc151 : ai_mc 11 151 ai_m151 = true := by decide +kernel
set_option maxRecDepth 100000 in
theorem ai_mc152 : ai_mc 11 152 ai_m152 = true := by decide +kernel
set_option maxRecDepth 100000 in
theorem ai_mc153 : ai_mc 11 153 ai_m153 = true := by decide +kernel
set_option maxRecDepth 100000 in
theorem ai_mc154 : ai_mc 11 154 ai_m154 = true := by decide +kernel
set_option maxRecDepth 100000 in
theorem ai_mc155 : ai_mc 11 155 ai_m155 = true := by decide +kernel
set_option maxRecDepth 100000 in
theorem ai_mc156 : ai_mc 11 156 ai_m156 = true := by decide +kernel
set_option maxRecDepth 100000 in
theorem ai_mc157 : ai_mc 11 157 ai_m157 = true := by decide +kernel
set_option maxRecDepth 100000 in
theorem ai_mc158 : ai_mc 11 158 ai_m158 = true := by decide +kernel
set_option maxRecDepth 100000 in
theorem ai_mc159 : ai_mc 11 159 ai_m159 = true := by decide +kernel
set_option maxRecDepth 100000 in
theorem ai_mc160 : ai_mc 11 160 ai_m160 = true := by decide +kernel
set_option maxRecDepth 100000 in
theorem ai_mc161 : ai_mc 11 161 ai_m161 = true := by decide +kernel
set_option maxRecDepth 100000 in
theorem ai_mc162 : ai_mc 11 162 ai_m162 = true := by decide +kernel
set_option maxRecDepth 100000 in
theorem ai_mc163 : ai_mc 11 163 ai_m163 = true := by decide +kernel
set_option maxRecDepth 100000 in
theorem ai_mc164 : ai_mc 11 164 ai_m164 = true := by decide +kernel
set_option maxRecDepth 100000 in
theorem ai_mc165 : ai_mc 11 165 ai_m165 = true := by decide +kernel
set_option maxRecDepth 100000 in
theorem ai_mc166 : ai_mc 11 166 ai_m166 = true := by decide +kernel
set_option maxRecDepth 100000 in
theorem ai_mc167 : ai_mc 11 167 ai_m167 = true := by decide +kernel
set_option maxRecDepth 100000 in
theorem ai_mc168 : ai_mc 11 168 ai_m168 = true := by decide +kernel
set_option maxRecDepth 100000 in
theorem ai_mc169 : ai_mc 11 169 ai_m169 = true := by decide +kernel
set_option maxRecDepth 100000 in
theorem ai_mc170 : ai_mc 11 170 ai_m170 = true := by decide +kernel
set_option maxRecDepth 100000 in
theorem ai_mc171 : ai_mc 11 171 ai_m171 = true := by decide +kernel
set_option maxRecDepth 100000 in
theorem ai_mc172 : ai_mc 11 172 ai_m172 = true := by decide +kernel
set_option maxRecDepth 100000 in
theorem ai_mc173 : ai_mc 11 173 ai_m173 = true := by decide +kernel
set_option maxRecDepth 100000 in
theorem ai_mc174 : ai_mc 11 174 ai_m174 = true := by decide +kernel
set_option maxRecDepth 100000 in
theorem ai_mc175 : ai_mc 11 175 ai_m175 = true := by decide +kernel
set_option maxRecDepth 100000 in
theorem ai_mc176 : ai_mc 11 176 ai_m176 = true := by decide +kernel
set_option maxRecDepth 100000 in
theorem ai_mc177 : ai_mc 11 177 ai_m177 = true := by decide +kernel
set_option maxRecDepth 100000 in
theorem ai_mc178 : ai_mc 11 178 ai_m178 = true := by decide +kernel
set_option maxRecDepth 100000 in
theorem ai_mc179 : ai_mc 11 179 ai_m179 = true := by decide +kernel
set_option maxRecDepth 100000 in
theorem ai_mc180 : ai_mc 11 180 ai_m180 = true := by decide +kernel
set_option maxRecDepth 100000 in
theorem ai_mc181 : ai_mc 11 181 ai_m181 = true := by decide +kernel
set_option maxRecDepth 100000 in
theorem ai_mc182 : ai_mc 11 182 ai_m182 = true := by decide +kernel
set_option maxRecDepth 100000 in
theorem ai_mc183 : ai_mc 11 183 ai_m183 = true := by decide +kernel
set_option maxRecDepth 100000 in
theorem ai_mc184 : ai_mc 11 184 ai_m184 = true := by decide +kernel
set_option maxRecDepth 100000 in
theorem ai_mc185 : ai_mc 12 185 ai_m185 = true := by decide +kernel
set_option maxRecDepth 100000 in
theorem ai_mc186 : ai_mc 12 186 ai_m186 = true := by decide +kernel
set_option maxRecDepth 100000 in
theorem ai_mc187 : ai_mc 12 187 ai_m187 = true := by decide +kernel
set_option maxRecDepth 100000 in
theorem ai_mc188 : ai_mc 12 188 ai_m188 = true := by decide +kernel
set_option maxRecDepth 100000 in
theorem ai_mc189 : ai_mc 12 189 ai_m189 = true := by decide +kernel
set_option maxRecDepth 100000 in
theorem ai_mc190 : ai_mc 12 190 ai_m190 = true := by decide +kernel
set_option maxRecDepth 100000 in
theorem ai_mc191 : ai_mc 12 191 ai_m191 = true := by decide +kernel
set_option maxRecDepth 100000 in
theorem ai_mc192 : ai_mc 12 192 ai_m192 = true := by decide +kernel
set_option maxRecDepth 100000 in
theorem ai_mc193 : ai_mc 12 193 ai_m193 = true := by decide +kernel
set_option maxRecDepth 100000 in
theorem ai_mc194 : ai_mc 12 194 ai_m194 = true := by decide +kernel
set_option maxRecDepth 100000 in
theorem ai_mc195 : ai_mc 12 195 ai_m195 = true := by decide +kernel
set_option maxRecDepth 100000 in
theorem ai_mc196 : ai_mc 12 196 ai_m196 = true := by decide +kernel
set_option maxRecDepth 100000 in
theorem ai_mc197 : ai_mc 12 197 ai_m197 = true := by decide +kernel
set_option maxRecDepth 100000 in
theorem ai_mc198 : ai_mc 12 198 ai_m198 = true := by decide +kernel
set_option maxRecDepth 100000 in
theorem ai_mc199 : ai_mc 12 199 ai_m199 = true := by decide +kernel
set_option maxRecDepth 100000 in
theorem ai_mc200 : ai_mc 12 200 ai_m200 = true := by decide +kernel
set_option maxRecDepth 100000 in
theorem ai_mc201 : ai_mc 12 201 ai_m201 = true := by decide +kernel
set_option maxRecDepth 100000 in
theorem ai_mc202 : ai_mc 12 202 ai_m202 = true := by decide +kernel
set_option maxRecDepth 100000 in
theorem ai_mc203 : ai_mc 12 203 ai_m203 = true := by decide +kernel
set_option maxRecDepth 100000 in
theorem ai_mc204 : ai_mc 12 204 ai_m204 = true := by decide +kernel
set_option maxRecDepth 100000 in
theorem ai_mc205 : ai_mc 12 205 ai_m205 = true := by decide +kernel
set_option maxRecDepth 100000 in
theorem ai_mc206 : ai_mc 12 206 ai_m206 = true := by decide +kernel
set_option maxRecDepth 100000 in
theorem ai_mc207 : ai_mc 12 207 ai_m207 = true := by decide +kernel
set_option maxRecDepth 100000 in
theorem ai_mc208 : ai_mc 12 208 ai_m208 = true := by decide +kernel
set_option maxRecDepth 100000 in
theorem ai_mc209 : ai_mc 12 209 ai_m209 = true := by decide +kernel
set_option maxRecDepth 100000 in
theorem ai_mc210 : ai_mc 12 210 ai_m210 = true := by decide +kernel
set_option maxRecDepth 100000 in
theorem ai_mc211 : ai_mc 12 211 ai_m211 = true := by decide +kernel
set_option maxRecDepth 100000 in
theorem ai_mc212 : ai_mc 12 212 ai_m212 = true := by decide +kernel
set_option maxRecDepth 100000 in
theorem ai_mc213 : ai_mc 12 213 ai_m213 = true := by decide +kernel
set_option maxRecDepth 100000 in
theorem ai_mc214 : ai_mc 12 214 ai_m214 = true := by decide +kernel
set_option maxRecDepth 100000 in
theorem ai_mc215 : ai_mc 12 215 ai_m215 = true := by decide +kernel
set_option maxRecDepth 100000 in
theorem ai_mc216 : ai_mc 12 216 ai_m216 = true := by decide +kernel
set_option maxRecDepth 100000 in
theorem ai_mc217 : ai_mc 12 217 ai_m217 = true := by decide +kernel
set_option maxRecDepth 100000 in
theorem ai_mc218 : ai_mc 12 218 ai_m218 = true := by decide +kernel
set_option maxRecDepth 100000 in
theorem ai_mc219 : ai_mc 12 219 ai_m219 = true := by decide +kernel
set_option maxRecDepth 100000 in
theorem ai_mc220 : ai_mc 12 220 ai_m220 = true := by decide +kernel
set_option maxRecDepth 100000 in
theorem ai_mc221 : ai_mc 12 221 ai_m221 = true := by decide +kernel
set_option maxRecDepth 100000 in
theorem ai_mc222 : ai_mc 12 222 ai_m222 = true := by decide +kernel
set_option maxRecDepth 100000 in
theorem ai_mc223 : ai_mc 12 223 ai_m223 = true := by decide +kernel
set_option maxRecDepth 100000 in
theorem ai_mc224 : ai_mc 12 224 ai_m224 = true := by decide +kernel
set_option maxRecDepth 100000 in
theorem ai_mc225 : ai_mc 12 225 ai_m225 = true := by decide +kernel
set_option maxRecDepth 100000 in
theorem ai_mc226 : ai_mc 12 226 ai_m226 = true := by decide +kernel
set_option maxRecDepth 100000 in
theorem ai_mc227 : ai_mc 12 227 ai_m227 = true := by decide +kernel
set_option maxRecDepth 100000 in
theorem ai_mc228 : ai_mc 12 228 ai_m228 = true := by decide +kernel
set_option maxRecDepth 100000 in
theorem ai_mc229 : ai_mc 12 229 ai_m229 = true := by decide +kernel
set_option maxRecDepth 100000 in
theorem ai_mc230 : ai_mc 12 230 ai_m230 = true := by decide +kernel
set_option maxRecDepth 100000 in
theorem ai_mc231 : ai_mc 12 231 ai_m231 = true := by decide +kernel
set_option maxRecDepth 100000 in
theorem ai_mc232 : ai_mc 12 232 ai_m232 = true := by decide +kernel
set_option maxRecDepth 100000 in
theorem ai_mc233 : ai_mc 12 233 ai_m233 = true := by decide +kernel
set_option maxRecDepth 100000 in
theorem ai_mc234 : ai_mc 12 234 ai_m234 = true := by decide +kernel
set_option maxRecDepth 100000 in
theorem ai_mc235 : ai_mc 12 235 ai_m235 = true := by decide +kernel
set_option maxRecDepth 100000 in
theorem ai_mc236 : ai_mc 12 236 ai_m236 = true := by decide +kernel
set_option maxRecDepth 100000 in
theorem ai_mc237 : ai_mc 12 237 ai_m237 = true := by decide +kernel
set_option maxRecDepth 100000 in
theorem ai_mc238 : ai_mc 12 238 ai_m238 = true := by decide +kernel
set_option maxRecDepth 100000 in
theorem ai_mc239 : ai_mc 12 239 ai_m239 = true := by decide +kernel
set_option maxRecDepth 100000 in
theorem ai_mc240 : ai_mc 12 240 ai_m240 = true := by decide +kernel
set_option maxRecDepth 100000 in
theorem ai_mc241 : ai_mc 12 241 ai_m241 = true := by decide +kernel
set_option maxRecDepth 100000 in
theorem ai_mc242 : ai_mc 12 242 ai_m242 = true := by decide +kernel
set_option maxRecDepth 100000 in
theorem ai_mc243 : ai_mc 12 243 ai_m243 = true := by decide +kernel
set_option maxRecDepth 100000 in
theorem ai_mc244 : ai_mc 12 244 ai_m244 = true := by decide +kernel
set_option maxRecDepth 100000 in
theorem ai_mc245 : ai_mc 12 245 ai_m245 = true := by decide +kernel
set_option maxRecDepth 100000 in
theorem ai_mc246 : ai_mc 12 246 ai_m246 = true := by decide +kernel
set_option maxRecDepth 100000 in
theorem ai_mc247 : ai_mc 12 247 ai_m247 = true := by decide +kernel
set_option maxRecDepth 100000 in
theorem ai_mc248 : ai_mc 12 248 ai_m248 = true := by decide +kernel
set_option maxRecDepth 100000 in
theorem ai_mc249 : ai_mc 12 249 ai_m249 = true := by decide +kernel
set_option maxRecDepth 100000 in
theorem ai_mc250 : ai_mc 12 250 ai_m250 = true := by decide +kernel
set_option maxRecDepth 100000 in
theorem ai_mc251 : ai_mc 12 251 ai_m251 = true := by decide +kernel
set_option maxRecDepth 100000 in
theorem ai_mc252 : ai_mc 12 252 ai_m252 = true := by decide +kernel
set_option maxRecDepth 100000 in
theorem ai_mc253 : ai_mc 12 253 ai_m253 = true := by decide +kernel
set_option maxRecDepth 100000 in
theorem ai_mc254 : ai_mc 12 254 ai_m254 = true := by decide +kernel
set_option maxRecDepth 100000 in
theorem ai_mc255 : ai_mc 12 255 ai_m255 = true := by decide +kernel
set_option maxRecDepth 100000 in
theorem ai_mc256 : ai_mc 12 256 ai_m256 = true := by decide +kernel
set_option maxRecDepth 100000 in
theorem ai_mc257 : ai_mc 12 257 ai_m257 = true := by decide +kernel
set_option maxRecDepth 100000 in
theorem ai_mc258 : ai_mc 12 258 ai_m258 = true := by decide +kernel
set_option maxRecDepth 100000 in
theorem ai_mc259 : ai_mc 12 259 ai_m259 = true := by decide +kernel
set_option maxRecDepth 100000 in
theorem ai_mc260 : ai_mc 12 260 ai_m260 = true := by decide +kernel
set_option maxRecDepth 100000 in
theorem ai_mc261 : ai_mc 12 261 ai_m261 = true := by decide +kernel
set_option maxRecDepth 100000 in
theorem ai_mc262 : ai_mc 12 262 ai_m262 = true := by decide +kernel
set_option maxRecDepth 100000 in
theorem ai_mc263 : ai_mc 12 263 ai_m263 = true := by decide +kernel
set_option maxRecDepth 100000 in
theorem ai_mc264 : ai_mc 12 264 ai_m264 = true := by decide +kernel
set_option maxRecDepth 100000 in
theorem ai_mc265 : ai_mc 12 265 ai_m265 = true := by decide +kernel
set_option maxRecDepth 100000 in
theorem ai_mc266 : ai_mc 12 266 ai_m266 = true := by decide +kernel
set_option maxRecDepth 100000 in
theorem ai_mc267 : ai_mc 12 267 ai_m267 = true := by decide +kernel
set_option maxRecDepth 100000 in
theorem ai_mc268 : ai_mc 12 268 ai_m268 = true := by decide +kernel
set_option maxRecDepth 100000 in
theorem ai_mc269 : ai_mc 12 269 ai_m269 = true := by decide +kernel
set_option maxRecDepth 100000 in
theorem ai_mc270 : ai_mc 12 270 ai_m270 = true := by decide +kernel
set_option maxRecDepth 100000 in
theorem ai_mc271 : ai_mc 12 271 ai_m271 = true := by decide +kernel
set_option maxRecDepth 100000 in
theorem ai_mc272 : ai_mc 12 272 ai_m272 = true := by decide +kernel
set_option maxRecDepth 100000 in
theorem ai_mc273 : ai_mc 12 273 ai_m273 = true := by decide +kernel
set_option maxRecDepth 100000 in
theorem ai_mc274 : ai_mc 12 274 ai_m274 = true := by decide +kernel
set_option maxRecDepth 100000 in
theorem ai_mc275 : ai_mc 12 275 ai_m275 = true := by decide +kernel
set_option maxRecDepth 100000 in
theorem ai_mc276 : ai_mc 12 276 ai_m276 = true := by decide +kernel
set_option maxRecDepth 100000 in
theorem ai_mc277 : ai_mc 12 277 ai_m277 = true := by decide +kernel
set_option maxRecDepth 100000 in
theorem ai_mc278 : ai_mc 12 278 ai_m278 = true := by decide +kernel
set_option maxRecDepth 100000 in
theorem ai_mc279 : ai_mc 12 279 ai_m279 = true := by decide +kernel
set_option maxRecDepth 100000 in
theorem ai_mc280 : ai_mc 12 280 ai_m280 = true := by decide +kernel
set_option maxRecDepth 100000 in
theorem ai_mc281 : ai_mc 12 281 ai_m281 = true := by decide +kernel
set_option maxRecDepth 100000 in
theorem ai_mc282 : ai_mc 12 282 ai_m282 = true := by decide +kernel
set_option maxRecDepth 100000 in
theorem ai_mc283 : ai_mc 12 283 ai_m283 = true := by decide +kernel
set_option maxRecDepth 100000 in
theorem ai_mc284 : ai_mc 12 284 ai_m284 = true := by decide +kernel
set_option maxRecDepth 100000 in
theorem ai_mc285 : ai_mc 12 285 ai_m285 = true := by decide +kernel
set_option maxRecDepth 100000 in
theorem ai_mc286 : ai_mc 12 286 ai_m286 = true := by decide +kernel
set_option maxRecDepth 100000 in
theorem ai_mc287 : ai_mc 12 287 ai_m287 = true := by decide +kernel
set_option maxRecDepth 100000 in
theorem ai_mc288 : ai_mc 12 288 ai_m288 = true := by decide +kernel
set_option maxRecDepth 100000 in
theorem ai_mc289 : ai_mc 12 289 ai_m289 = true := by decide +kernel
set_option maxRecDepth 100000 in
theorem ai_mc290 : ai_mc 12 290 ai_m290 = true := by decide +kernel
set_option maxRecDepth 100000 in
theorem ai_mc291 : ai_mc 12 291 ai_m291 = true := by decide +kernel
set_option maxRecDepth 100000 in
theorem ai_mc292 : ai_mc 12 292 ai_m292 = true := by decide +kernel
set_option maxRecDepth 100000 in
theorem ai_mc293 : ai_mc 12 293 ai_m293 = true := by decide +kernel
set_option maxRecDepth 100000 in
theorem ai_mc294 : ai_mc 12 294 ai_m294 = true := by decide +kernel
set_option maxRecDepth 100000 in
theorem ai_mc295 : ai_mc 12 295 ai_m295 = true := by decide +kernel
set_option maxRecDepth 100000 in
theorem ai_mc296 : ai_mc 12 296 ai_m296 = true := by decide +kernel
set_option maxRecDepth 100000 in
theorem ai_mc297 : ai_mc 12 297 ai_m297 = true := by decide +kernel
set_option maxRecDepth 100000 in
theorem ai_mc298 : ai_mc 12 298 ai_m298 = true := by decide +kernel
set_option maxRecDepth 100000 in
theorem ai_mc299 : ai_mc 12 299 ai_m299 = true := by decide +kernel
set_option maxRecDepth 100000 in
theorem ai_mc300 : ai_mc 12 300 ai_m300 = true := by decide +kernel
set_option maxRecDepth 100000 in
theorem ai_mc301 : ai_mc 12 301 ai_m301 = true := by decide +kernel
set_option maxRecDepth 100000 in
theorem ai_mc302 : ai_mc 12 302 ai_m302 = true := by decide +kernel
set_option maxRecDepth 100000 in
theorem ai_mc303 : ai_mc 12 303 ai_m303 = true := by decide +kernel
set_option maxRecDepth 100000 in
theorem ai_mc304 : ai_mc 12 304 ai_m304 = true := by decide +kernel
set_option maxRecDepth 100000 in
theorem ai_mc305 : ai_mc 12 305 ai_m305 = true := by decide +kernel
set_option maxRecDepth 100000 in
theorem ai_mc306 : ai_mc 12 306 ai_m306 = true := by decide +kernel
set_option maxRecDepth 100000 in
theorem ai_mc307 : ai_mc 12 307 ai_m307 = true := by decide +kernel
set_option maxRecDepth 100000 in
theorem ai_mc308 : ai_mc 12 308 ai_m308 = true := by decide +kernel
set_option maxRecDepth 100000 in
theorem ai_mc309 : ai_mc 12 309 ai_m309 = true := by decide +kernel
set_option maxRecDepth 100000 in
theorem ai_mc310 : ai_mc 12 310 ai_m310 = true := by decide +kernel
set_option maxRecDepth 100000 in
theorem ai_mc311 : ai_mc 12 311 ai_m311 = true := by decide +kernel
set_option maxRecDepth 100000 in
theorem ai_mc312 : ai_mc 14 312 ai_m312 = true := by decide +kernel
set_option maxRecDepth 100000 in
theorem ai_mc313 : ai_mc 15 313 ai_m313 = true := by decide +kernel
set_option maxRecDepth 100000 in
theorem ai_mc314 : ai_mc 17 314 ai_m314 = true := by decide +kernel
set_option maxRecDepth 100000 in
theorem ai_mc315 : ai_mc 17 315 ai_m315 = true := by decide +kernel
set_option maxRecDepth 100000 in
theorem ai_mc316 : ai_mc 17 316 ai_m316 = true := by decide +kernel
set_option maxRecDepth 100000 in
theorem ai_mc317 : ai_mc 17 317 ai_m317 = true := by decide +kernel
set_option maxRecDepth 100000 in
theorem ai_mc318 : ai_mc 17 318 ai_m318 = true := by decide +kernel
set_option maxRecDepth 100000 in
theorem ai_mc319 : ai_mc 18 319 ai_m319 = true := by decide +kernel
set_option maxRecDepth 100000 in
theorem ai_mc324 : ai_mc 16 324 ai_m324 = true := by decide +kernel
set_option maxRecDepth 100000 in
theorem ai_mc325 : ai_mc 16 325 ai_m325 = true := by decide +kernel
set_option maxRecDepth 100000 in
theorem ai_mc326 : ai_mc 19 326 ai_m326 = true := by decide +kernel
set_option maxRecDepth 100000 in
theorem ai_M_all : ∀ q ∈ ai_tabl, ai_Mok q.1 q.2 := by
  unfold ai_tabl
  exact List.forall_mem_cons.mpr ⟨ai_mc_ok (o := 0) ai_mc0 ai_tb0_ok rfl, List.forall_mem_cons.mpr ⟨ai_mc_ok (o := 0) ai_mc1 ai_tb0_ok rfl, List.forall_mem_cons.mpr ⟨ai_mc_ok (o := 0) ai_mc2 ai_tb0_ok rfl, List.forall_mem_cons.mpr ⟨ai_mc_ok (o := 0) ai_mc3 ai_tb0_ok rfl, List.forall_mem_cons.mpr ⟨ai_mc_ok (o := 0) ai_mc4 ai_tb0_ok rfl, List.forall_mem_cons.mpr ⟨ai_mc_ok (o := 0) ai_mc5 ai_tb0_ok rfl, List.forall_mem_cons.mpr ⟨ai_mc_ok (o := 0) ai_mc6 ai_tb0_ok rfl, List.forall_mem_cons.mpr ⟨ai_mc_ok (o := 0) ai_mc7 ai_tb0_ok rfl, List.forall_mem_cons.mpr ⟨ai_mc_ok (o := 0) ai_mc8 ai_tb0_ok rfl, List.forall_mem_cons.mpr ⟨ai_mc_ok (o := 0) ai_mc9 ai_tb0_ok rfl, List.forall_mem_cons.mpr ⟨ai_mc_ok (o := 0) ai_mc10 ai_tb0_ok rfl, List.forall_mem_cons.mpr ⟨ai_mc_ok (o := 0) ai_mc11 ai_tb0_ok rfl, List.forall_mem_cons.mpr ⟨ai_mc_ok (o := 1) ai_mc12 ai_tb1_ok rfl, List.forall_mem_cons.mpr ⟨ai_mc_ok (o := 1) ai_mc13 ai_tb1_ok rfl, List.forall_mem_cons.mpr ⟨ai_mc_ok (o := 1) ai_mc14 ai_tb1_ok rfl, List.forall_mem_cons.mpr ⟨ai_mc_ok (o := 1) ai_mc15 ai_tb1_ok rfl, List.forall_mem_cons.mpr ⟨ai_mc_ok (o := 1) ai_mc16 ai_tb1_ok rfl, List.forall_mem_cons.mpr ⟨ai_mc_ok (o := 1) ai_mc17 ai_tb1_ok rfl, List.forall_mem_cons.mpr ⟨ai_mc_ok (o := 2) ai_mc18 ai_tb2_ok rfl, List.forall_mem_cons.mpr ⟨ai_mc_ok (o := 2) ai_mc19 ai_tb2_ok rfl, List.forall_mem_cons.mpr ⟨ai_mc_ok (o := 3) ai_mc20 ai_tb3_ok rfl, List.forall_mem_cons.mpr ⟨ai_mc_ok (o := 3) ai_mc21 ai_tb3_ok rfl, List.forall_mem_cons.mpr ⟨ai_mc_ok (o := 3) ai_mc22 ai_tb3_ok rfl, List.forall_mem_cons.mpr ⟨ai_mc_ok (o := 3) ai_mc23 ai_tb3_ok rfl, List.forall_mem_cons.mpr ⟨ai_mc_ok (o := 3) ai_mc24 ai_tb3_ok rfl, List.forall_mem_cons.mpr ⟨ai_mc_ok (o := 3) ai_mc25 ai_tb3_ok rfl, List.forall_mem_cons.mpr ⟨ai_mc_ok (o := 3) ai_mc26 ai_tb3_ok rfl, List.forall_mem_cons.mpr ⟨ai_mc_ok (o := 3) ai_mc27 ai_tb3_ok rfl, List.forall_mem_cons.mpr ⟨ai_mc_ok (o := 3) ai_mc28 ai_tb3_ok rfl, List.forall_mem_cons.mpr ⟨ai_mc_ok (o := 3) ai_mc29 ai_tb3_ok rfl, List.forall_mem_cons.mpr ⟨ai_mc_ok (o := 4) ai_mc30 ai_tb4_ok rfl, List.forall_mem_cons.mpr ⟨ai_mc_ok (o := 4) ai_mc31 ai_tb4_ok rfl, List.forall_mem_cons.mpr ⟨ai_mc_ok (o := 4) ai_mc32 ai_tb4_ok rfl, List.forall_mem_cons.mpr ⟨ai_mc_ok (o := 4) ai_mc33 ai_tb4_ok rfl, List.forall_mem_cons.mpr ⟨ai_mc_ok (o := 4) ai_mc34 ai_tb4_ok rfl, List.forall_mem_cons.mpr ⟨ai_mc_ok (o := 4) ai_mc35 ai_tb4_ok rfl, List.forall_mem_cons.mpr ⟨ai_mc_ok (o := 5) ai_mc36 ai_tb5_ok rfl, List.forall_mem_cons.mpr ⟨ai_mc_ok (o := 5) ai_mc37 ai_tb5_ok rfl, List.forall_mem_cons.mpr ⟨ai_mc_ok (o := 5) ai_mc38 ai_tb5_ok rfl, List.forall_mem_cons.mpr ⟨ai_mc_ok (o := 5) ai_mc39 ai_tb5_ok rfl, List.forall_mem_cons.mpr ⟨ai_mc_ok (o := 5) ai_mc40 ai_tb5_ok rfl, List.forall_mem_cons.mpr ⟨ai_mc_ok (o := 5) ai_mc41 ai_tb5_ok rfl, List.forall_mem_cons.mpr ⟨ai_mc_ok (o := 5) ai_mc42 ai_tb5_ok rfl, List.forall_mem_cons.mpr ⟨ai_mc_ok (o := 6) ai_mc43 ai_tb6_ok rfl, List.forall_mem_cons.mpr ⟨ai_mc_ok (o := 6) ai_mc44 ai_tb6_ok rfl, List.forall_mem_cons.mpr ⟨ai_mc_ok (o := 6) ai_mc45 ai_tb6_ok rfl, List.forall_mem_cons.mpr ⟨ai_mc_ok (o := 6) ai_mc46 ai_tb6_ok rfl, List.forall_mem_cons.mpr ⟨ai_mc_ok (o := 6) ai_mc47 ai_tb6_ok rfl, List.forall_mem_cons.mpr ⟨ai_mc_ok (o := 6) ai_mc48 ai_tb6_ok rfl, List.forall_mem_cons.mpr ⟨ai_mc_ok (o := 6) ai_mc49 ai_tb6_ok rfl, List.forall_mem_cons.mpr ⟨ai_mc_ok (o := 7) ai_mc50 ai_tb7_ok rfl, List.forall_mem_cons.mpr ⟨ai_mc_ok (o := 7) ai_mc51 ai_tb7_ok rfl, List.forall_mem_cons.mpr ⟨ai_mc_ok (o := 7) ai_mc52 ai_tb7_ok rfl, List.forall_mem_cons.mpr ⟨ai_mc_ok (o := 7) ai_mc53 ai_tb7_ok rfl, List.forall_mem_cons.mpr ⟨ai_mc_ok (o := 7) ai_mc54 ai_tb7_ok rfl, List.forall_mem_cons.mpr ⟨ai_mc_ok (o := 7) ai_mc55 ai_tb7_ok rfl, List.forall_mem_cons.mpr ⟨ai_mc_ok (o := 7) ai_mc56 ai_tb7_ok rfl, List.forall_mem_cons.mpr ⟨ai_mc_ok (o := 7) ai_mc57 ai_tb7_ok rfl, List.forall_mem_cons.mpr ⟨ai_mc_ok (o := 7) ai_mc58 ai_tb7_ok rfl, List.forall_mem_cons.mpr ⟨ai_mc_ok (o := 7) ai_mc59 ai_tb7_ok rfl, List.forall_mem_cons.mpr ⟨ai_mc_ok (o := 7) ai_mc60 ai_tb7_ok rfl, List.forall_mem_cons.mpr ⟨ai_mc_ok (o := 7) ai_mc61 ai_tb7_ok rfl, List.forall_mem_cons.mpr ⟨ai_mc_ok (o := 7) ai_mc62 ai_tb7_ok rfl, List.forall_mem_cons.mpr ⟨ai_mc_ok (o := 7) ai_mc63 ai_tb7_ok rfl, List.forall_mem_cons.mpr ⟨ai_mc_ok (o := 7) ai_mc64 ai_tb7_ok rfl, List.forall_mem_cons.mpr ⟨ai_mc_ok (o := 7) ai_mc65 ai_tb7_ok rfl, List.forall_mem_cons.mpr ⟨ai_mc_ok (o := 7) ai_mc66 ai_tb7_ok rfl, List.forall_mem_cons.mpr ⟨ai_mc_ok (o := 7) ai_mc67 ai_tb7_ok rfl, List.forall_mem_cons.mpr ⟨ai_mc_ok (o := 7) ai_mc68 ai_tb7_ok rfl, List.forall_mem_cons.mpr ⟨ai_mc_ok (o := 7) ai_mc70 ai_tb7_ok rfl, List.forall_mem_cons.mpr ⟨ai_mc_ok (o := 8) ai_mc71 ai_tb8_ok rfl, List.forall_mem_cons.mpr ⟨ai_mc_ok (o := 8) ai_mc72 ai_tb8_ok rfl, List.forall_mem_cons.mpr ⟨ai_mc_ok (o := 9) ai_mc73 ai_tb9_ok rfl, List.forall_mem_cons.mpr ⟨ai_mc_ok (o := 9) ai_mc74 ai_tb9_ok rfl, List.forall_mem_cons.mpr ⟨ai_mc_ok (o := 9) ai_mc75 ai_tb9_ok rfl, List.forall_mem_cons.mpr ⟨ai_mc_ok (o := 9) ai_mc76 ai_tb9_ok rfl, List.forall_mem_cons.mpr ⟨ai_mc_ok (o := 9) ai_mc77 ai_tb9_ok rfl, List.forall_mem_cons.mpr ⟨ai_mc_ok (o := 9) ai_mc78 ai_tb9_ok rfl, List.forall_mem_cons.mpr ⟨ai_mc_ok (o := 10) ai_mc79 ai_tb10_ok rfl, List.forall_mem_cons.mpr ⟨ai_mc_ok (o := 10) ai_mc80 ai_tb10_ok rfl, List.forall_mem_cons.mpr ⟨ai_mc_ok (o := 10) ai_mc81 ai_tb10_ok rfl, List.forall_mem_cons.mpr ⟨ai_mc_ok (o := 10) ai_mc82 ai_tb10_ok rfl, List.forall_mem_cons.mpr ⟨ai_mc_ok (o := 10) ai_mc83 ai_tb10_ok rfl, List.forall_mem_cons.mpr ⟨ai_mc_ok (o := 10) ai_mc84 ai_tb10_ok rfl, List.forall_mem_cons.mpr ⟨ai_mc_ok (o := 11) ai_mc85 ai_tb11_ok rfl, List.forall_mem_cons.mpr ⟨ai_mc_ok (o := 11) ai_mc86 ai_tb11_ok rfl, List.forall_mem_cons.mpr ⟨ai_mc_ok (o := 11) ai_mc87 ai_tb11_ok rfl, List.forall_mem_cons.mpr ⟨ai_mc_ok (o := 11) ai_mc88 ai_tb11_ok rfl, List.forall_mem_cons.mpr ⟨ai_mc_ok (o := 11) ai_mc89 ai_tb11_ok rfl, List.forall_mem_cons.mpr ⟨ai_mc_ok (o := 11) ai_mc90 ai_tb11_ok rfl, List.forall_mem_cons.mpr ⟨ai_mc_ok (o := 11) ai_mc91 ai_tb11_ok rfl, List.forall_mem_cons.mpr ⟨ai_mc_ok (o := 11) ai_mc92 ai_tb11_ok rfl, List.forall_mem_cons.mpr ⟨ai_mc_ok (o := 11) ai_mc93 ai_tb11_ok rfl, List.forall_mem_cons.mpr ⟨ai_mc_ok (o := 11) ai_mc94 ai_tb11_ok rfl, List.forall_mem_cons.mpr ⟨ai_mc_ok (o := 11) ai_mc95 ai_tb11_ok rfl, List.forall_mem_cons.mpr ⟨ai_mc_ok (o := 11) ai_mc96 ai_tb11_ok rfl, List.forall_mem_cons.mpr ⟨ai_mc_ok (o := 11) ai_mc97 ai_tb11_ok rfl, List.forall_mem_cons.mpr ⟨ai_mc_ok (o := 11) ai_mc98 ai_tb11_ok rfl, List.forall_mem_cons.mpr ⟨ai_mc_ok (o := 11) ai_mc99 ai_tb11_ok rfl, List.forall_mem_cons.mpr ⟨ai_mc_ok (o := 11) ai_mc100 ai_tb11_ok rfl, List.forall_mem_cons.mpr ⟨ai_mc_ok (o := 11) ai_mc101 ai_tb11_ok rfl, List.forall_mem_cons.mpr ⟨ai_mc_ok (o := 11) ai_mc102 ai_tb11_ok rfl, List.forall_mem_cons.mpr ⟨ai_mc_ok (o := 11) ai_mc103 ai_tb11_ok rfl, List.forall_mem_cons.mpr ⟨ai_mc_ok (o := 11) ai_mc104 ai_tb11_ok rfl, List.forall_mem_cons.mpr ⟨ai_mc_ok (o := 11) ai_mc105 ai_tb11_ok rfl, List.forall_mem_cons.mpr ⟨ai_mc_ok (o := 11) ai_mc106 ai_tb11_ok rfl, List.forall_mem_cons.mpr ⟨ai_mc_ok (o := 11) ai_mc107 ai_tb11_ok rfl, List.forall_mem_cons.mpr ⟨ai_mc_ok (o := 11) ai_mc108 ai_tb11_ok rfl, List.forall_mem_cons.mpr ⟨ai_mc_ok (o := 11) ai_mc109 ai_tb11_ok rfl, List.forall_mem_cons.mpr ⟨ai_mc_ok (o := 11) ai_mc110 ai_tb11_ok rfl, List.forall_mem_cons.mpr ⟨ai_mc_ok (o := 11) ai_mc111 ai_tb11_ok rfl, List.forall_mem_cons.mpr ⟨ai_mc_ok (o := 11) ai_mc112 ai_tb11_ok rfl, List.forall_mem_cons.mpr ⟨ai_mc_ok (o := 11) ai_mc113 ai_tb11_ok rfl, List.forall_mem_cons.mpr ⟨ai_mc_ok (o := 11) ai_mc114 ai_tb11_ok rfl, List.forall_mem_cons.mpr ⟨ai_mc_ok (o := 11) ai_mc115 ai_tb11_ok rfl, List.forall_mem_cons.mpr ⟨ai_mc_ok (o := 11) ai_mc116 ai_tb11_ok rfl, List.forall_mem_cons.mpr ⟨ai_mc_ok (o := 11) ai_mc117 ai_tb11_ok rfl, List.forall_mem_cons.mpr ⟨ai_mc_ok (o := 11) ai_mc118 ai_tb11_ok rfl, List.forall_mem_cons.mpr ⟨ai_mc_ok (o := 11) ai_mc119 ai_tb11_ok rfl, List.forall_mem_cons.mpr ⟨ai_mc_ok (o := 11) ai_mc120 ai_tb11_ok rfl, List.forall_mem_cons.mpr ⟨ai_mc_ok (o := 11) ai_mc121 ai_tb11_ok rfl, List.forall_mem_cons.mpr ⟨ai_mc_ok (o := 11) ai_mc122 ai_tb11_ok rfl, List.forall_mem_cons.mpr ⟨ai_mc_ok (o := 11) ai_mc123 ai_tb11_ok rfl, List.forall_mem_cons.mpr ⟨ai_mc_ok (o := 11) ai_mc124 ai_tb11_ok rfl, List.forall_mem_cons.mpr ⟨ai_mc_ok (o := 11) ai_mc125 ai_tb11_ok rfl, List.forall_mem_cons.mpr ⟨ai_mc_ok (o := 11) ai_mc126 ai_tb11_ok rfl, List.forall_mem_cons.mpr ⟨ai_mc_ok (o := 11) ai_mc127 ai_tb11_ok rfl, List.forall_mem_cons.mpr ⟨ai_mc_ok (o := 11) ai_mc128 ai_tb11_ok rfl, List.forall_mem_cons.mpr ⟨ai_mc_ok (o := 11) ai_mc129 ai_tb11_ok rfl, List.forall_mem_cons.mpr ⟨ai_mc_ok (o := 11) ai_mc130 ai_tb11_ok rfl, List.forall_mem_cons.mpr ⟨ai_mc_ok (o := 11) ai_mc131 ai_tb11_ok rfl, List.forall_mem_cons.mpr ⟨ai_mc_ok (o := 11) ai_mc132 ai_tb11_ok rfl, List.forall_mem_cons.mpr ⟨ai_mc_ok (o := 11) ai_mc133 ai_tb11_ok rfl, List.forall_mem_cons.mpr ⟨ai_mc_ok (o := 11) ai_mc134 ai_tb11_ok rfl, List.forall_mem_cons.mpr ⟨ai_mc_ok (o := 11) ai_mc135 ai_tb11_ok rfl, List.forall_mem_cons.mpr ⟨ai_mc_ok (o := 11) ai_mc136 ai_tb11_ok rfl, List.forall_mem_cons.mpr ⟨ai_mc_ok (o := 11) ai_mc137 ai_tb11_ok rfl, List.forall_mem_cons.mpr ⟨ai_mc_ok (o := 11) ai_mc138 ai_tb11_ok rfl, List.forall_mem_cons.mpr ⟨ai_mc_ok (o := 11) ai_mc139 ai_tb11_ok rfl, List.forall_mem_cons.mpr ⟨ai_mc_ok (o := 11) ai_mc140 ai_tb11_ok rfl, List.forall_mem_cons.mpr ⟨ai_mc_ok (o := 11) ai_mc141 ai_tb11_ok rfl, List.forall_mem_cons.mpr ⟨ai_mc_ok (o := 11) ai_mc142 ai_tb11_ok rfl, List.forall_mem_cons.mpr ⟨ai_mc_ok (o := 11) ai_mc143 ai_tb11_ok rfl, List.forall_mem_cons.mpr ⟨ai_mc_ok (o := 11) ai_mc144 ai_tb11_ok rfl, List.forall_mem_cons.mpr ⟨ai_mc_ok (o := 11) ai_mc145 ai_tb11_ok rfl, List.forall_mem_cons.mpr ⟨ai_mc_ok (o := 11) ai_mc146 ai_tb11_ok rfl, List.forall_mem_cons.mpr ⟨ai_mc_ok (o := 11) ai_mc147 ai_tb11_ok rfl, List.forall_mem_cons.mpr ⟨ai_mc_ok (o := 11) ai_mc148 ai_tb11_ok rfl, List.forall_mem_cons.mpr ⟨ai_mc_ok (o := 11) ai_mc149 ai_tb11_ok rfl, List.forall_mem_cons.mpr ⟨ai_mc_ok (o := 11) ai_mc150 ai_tb11_ok rfl, List.forall_mem_cons.mpr ⟨ai_mc_ok (o := 11) ai_mc151 ai_tb11_ok rfl, List.forall_mem_cons.mpr ⟨ai_mc_ok (o := 11) ai_mc152 ai_tb11_ok rfl, List.forall_mem_cons.mpr ⟨ai_mc_ok (o := 11) ai_mc153 ai_tb11_ok rfl, List.forall_mem_cons.mpr ⟨ai_mc_ok (o := 11) ai_mc154 ai_tb11_ok rfl, List.forall_mem_cons.mpr ⟨ai_mc_ok (o := 11) ai_mc155 ai_tb11_ok rfl, List.forall_mem_cons.mpr ⟨ai_mc_ok (o := 11) ai_mc156 ai_tb11_ok rfl, List.forall_mem_cons.mpr ⟨ai_mc_ok (o := 11) ai_mc157 ai_tb11_ok rfl, List.forall_mem_cons.mpr ⟨ai_mc_ok (o := 11) ai_mc158 ai_tb11_ok rfl, List.forall_mem_cons.mpr ⟨ai_mc_ok (o := 11) ai_mc159 ai_tb11_ok rfl, List.forall_mem_cons.mpr ⟨ai_mc_ok (o := 11) ai_mc160 ai_tb11_ok rfl, List.forall_mem_cons.mpr ⟨ai_mc_ok (o := 11) ai_mc161 ai_tb11_ok rfl, List.forall_mem_cons.mpr ⟨ai_mc_ok (o := 11) ai_mc162 ai_tb11_ok rfl, List.forall_mem_cons.mpr ⟨ai_mc_ok (o := 11) ai_mc163 ai_tb11_ok rfl, List.forall_mem_cons.mpr ⟨ai_mc_ok (o := 11) ai_mc164 ai_tb11_ok rfl, List.forall_mem_cons.mpr ⟨ai_mc_ok (o := 11) ai_mc165 ai_tb11_ok rfl, List.forall_mem_cons.mpr ⟨ai_mc_ok (o := 11) ai_mc166 ai_tb11_ok rfl, List.forall_mem_cons.mpr ⟨ai_mc_ok (o := 11) ai_mc167 ai_tb11_ok rfl, List.forall_mem_cons.mpr ⟨ai_mc_ok (o := 11) ai_mc168 ai_tb11_ok rfl, List.forall_mem_cons.mpr ⟨ai_mc_ok (o := 11) ai_mc169 ai_tb11_ok rfl, List.forall_mem_cons.mpr ⟨ai_mc_ok (o := 11) ai_mc170 ai_tb11_ok rfl, List.forall_mem_cons.mpr ⟨ai_mc_ok (o := 11) ai_mc171 ai_tb11_ok rfl, List.forall_mem_cons.mpr ⟨ai_mc_ok (o := 11) ai_mc172 ai_tb11_ok rfl, List.forall_mem_cons.mpr ⟨ai_mc_ok (o := 11) ai_mc173 ai_tb11_ok rfl, List.forall_mem_cons.mpr ⟨ai_mc_ok (o := 11) ai_mc174 ai_tb11_ok rfl, List.forall_mem_cons.mpr ⟨ai_mc_ok (o := 11) ai_mc175 ai_tb11_ok rfl, List.forall_mem_cons.mpr ⟨ai_mc_ok (o := 11) ai_mc176 ai_tb11_ok rfl, List.forall_mem_cons.mpr ⟨ai_mc_ok (o := 11) ai_mc177 ai_tb11_ok rfl, List.forall_mem_cons.mpr ⟨ai_mc_ok (o := 11) ai_mc178 ai_tb11_ok rfl, List.forall_mem_cons.mpr ⟨ai_mc_ok (o := 11) ai_mc179 ai_tb11_ok rfl, List.forall_mem_cons.mpr ⟨ai_mc_ok (o := 11) ai_mc180 ai_tb11_ok rfl, List.forall_mem_cons.mpr ⟨ai_mc_ok (o := 11) ai_mc181 ai_tb11_ok rfl, List.forall_mem_cons.mpr ⟨ai_mc_ok (o := 11) ai_mc182 ai_tb11_ok rfl, List.forall_mem_cons.mpr ⟨ai_mc_ok (o := 11) ai_mc183 ai_tb11_ok rfl, List.forall_mem_cons.mpr ⟨ai_mc_ok (o := 11) ai_mc184 ai_tb11_ok rfl, List.forall_mem_cons.mpr ⟨ai_mc_ok (o := 12) ai_mc185 ai_tb12_ok rfl, List.forall_mem_cons.mpr ⟨ai_mc_ok (o := 12) ai_mc186 ai_tb12_ok rfl, List.forall_mem_cons.mpr ⟨ai_mc_ok (o := 12) ai_mc187 ai_tb12_ok rfl, List.forall_mem_cons.mpr ⟨ai_mc_ok (o := 12) ai_mc188 ai_tb12_ok rfl, List.forall_mem_cons.mpr ⟨ai_mc_ok (o := 12) ai_mc189 ai_tb12_ok rfl, List.forall_mem_cons.mpr ⟨ai_mc_ok (o := 12) ai_mc190 ai_tb12_ok rfl, List.forall_mem_cons.mpr ⟨ai_mc_ok (o := 12) ai_mc191 ai_tb12_ok rfl, List.forall_mem_cons.mpr ⟨ai_mc_ok (o := 12) ai_mc192 ai_tb12_ok rfl, List.forall_mem_cons.mpr ⟨ai_mc_ok (o := 12) ai_mc193 ai_tb12_ok rfl, List.forall_mem_cons.mpr ⟨ai_mc_ok (o := 12) ai_mc194 ai_tb12_ok rfl, List.forall_mem_cons.mpr ⟨ai_mc_ok (o := 12) ai_mc195 ai_tb12_ok rfl, List.forall_mem_cons.mpr ⟨ai_mc_ok (o := 12) ai_mc196 ai_tb12_ok rfl, List.forall_mem_cons.mpr ⟨ai_mc_ok (o := 12) ai_mc197 ai_tb12_ok rfl, List.forall_mem_cons.mpr ⟨ai_mc_ok (o := 12) ai_mc198 ai_tb12_ok rfl, List.forall_mem_cons.mpr ⟨ai_mc_ok (o := 12) ai_mc199 ai_tb12_ok rfl, List.forall_mem_cons.mpr ⟨ai_mc_ok (o := 12) ai_mc200 ai_tb12_ok rfl, List.forall_mem_cons.mpr ⟨ai_mc_ok (o := 12) ai_mc201 ai_tb12_ok rfl, List.forall_mem_cons.mpr ⟨ai_mc_ok (o := 12) ai_mc202 ai_tb12_ok rfl, List.forall_mem_cons.mpr ⟨ai_mc_ok (o := 12) ai_mc203 ai_tb12_ok rfl, List.forall_mem_cons.mpr ⟨ai_mc_ok (o := 12) ai_mc204 ai_tb12_ok rfl, List.forall_mem_cons.mpr ⟨ai_mc_ok (o := 12) ai_mc205 ai_tb12_ok rfl, List.forall_mem_cons.mpr ⟨ai_mc_ok (o := 12) ai_mc206 ai_tb12_ok rfl, List.forall_mem_cons.mpr ⟨ai_mc_ok (o := 12) ai_mc207 ai_tb12_ok rfl, List.forall_mem_cons.mpr ⟨ai_mc_ok (o := 12) ai_mc208 ai_tb12_ok rfl, List.forall_mem_cons.mpr ⟨ai_mc_ok (o := 12) ai_mc209 ai_tb12_ok rfl, List.forall_mem_cons.mpr ⟨ai_mc_ok (o := 12) ai_mc210 ai_tb12_ok rfl, List.forall_mem_cons.mpr ⟨ai_mc_ok (o := 12) ai_mc211 ai_tb12_ok rfl, List.forall_mem_cons.mpr ⟨ai_mc_ok (o := 12) ai_mc212 ai_tb12_ok rfl, List.forall_mem_cons.mpr ⟨ai_mc_ok (o := 12) ai_mc213 ai_tb12_ok rfl, List.forall_mem_cons.mpr ⟨ai_mc_ok (o := 12) ai_mc214 ai_tb12_ok rfl, List.forall_mem_cons.mpr ⟨ai_mc_ok (o := 12) ai_mc215 ai_tb12_ok rfl, List.forall_mem_cons.mpr ⟨ai_mc_ok (o := 12) ai_mc216 ai_tb12_ok rfl, List.forall_mem_cons.mpr ⟨ai_mc_ok (o := 12) ai_mc217 ai_tb12_ok rfl, List.forall_mem_cons.mpr ⟨ai_mc_ok (o := 12) ai_mc218 ai_tb12_ok rfl, List.forall_mem_cons.mpr ⟨ai_mc_ok (o := 12) ai_mc219 ai_tb12_ok rfl, List.forall_mem_cons.mpr ⟨ai_mc_ok (o := 12) ai_mc220 ai_tb12_ok rfl, List.forall_mem_cons.mpr ⟨ai_mc_ok (o := 12) ai_mc221 ai_tb12_ok rfl, List.forall_mem_cons.mpr ⟨ai_mc_ok (o := 12) ai_mc222 ai_tb12_ok rfl, List.forall_mem_cons.mpr ⟨ai_mc_ok (o := 12) ai_mc223 ai_tb12_ok rfl, List.forall_mem_cons.mpr ⟨ai_mc_ok (o := 12) ai_mc224 ai_tb12_ok rfl, List.forall_mem_cons.mpr ⟨ai_mc_ok (o := 12) ai_mc225 ai_tb12_ok rfl, List.forall_mem_cons.mpr ⟨ai_mc_ok (o := 12) ai_mc226 ai_tb12_ok rfl, List.forall_mem_cons.mpr ⟨ai_mc_ok (o := 12) ai_mc227 ai_tb12_ok rfl, List.forall_mem_cons.mpr ⟨ai_mc_ok (o := 12) ai_mc228 ai_tb12_ok rfl, List.forall_mem_cons.mpr ⟨ai_mc_ok (o := 12) ai_mc229 ai_tb12_ok rfl, List.forall_mem_cons.mpr ⟨ai_mc_ok (o := 12) ai_mc230 ai_tb12_ok rfl, List.forall_mem_cons.mpr ⟨ai_mc_ok (o := 12) ai_mc231 ai_tb12_ok rfl, List.forall_mem_cons.mpr ⟨ai_mc_ok (o := 12) ai_mc232 ai_tb12_ok rfl, List.forall_mem_cons.mpr ⟨ai_mc_ok (o := 12) ai_mc233 ai_tb12_ok rfl, List.forall_mem_cons.mpr ⟨ai_mc_ok (o := 12) ai_mc234 ai_tb12_ok rfl, List.forall_mem_cons.mpr ⟨ai_mc_ok (o := 12) ai_mc235 ai_tb12_ok rfl, List.forall_mem_cons.mpr ⟨ai_mc_ok (o := 12) ai_mc236 ai_tb12_ok rfl, List.forall_mem_cons.mpr ⟨ai_mc_ok (o := 12) ai_mc237 ai_tb12_ok rfl, List.forall_mem_cons.mpr ⟨ai_mc_ok (o := 12) ai_mc238 ai_tb12_ok rfl, List.forall_mem_cons.mpr ⟨ai_mc_ok (o := 12) ai_mc239 ai_tb12_ok rfl, List.forall_mem_cons.mpr ⟨ai_mc_ok (o := 12) ai_mc240 ai_tb12_ok rfl, List.forall_mem_cons.mpr ⟨ai_mc_ok (o := 12) ai_mc241 ai_tb12_ok rfl, List.forall_mem_cons.mpr ⟨ai_mc_ok (o := 12) ai_mc242 ai_tb12_ok rfl, List.forall_mem_cons.mpr ⟨ai_mc_ok (o := 12) ai_mc243 ai_tb12_ok rfl, List.forall_mem_cons.mpr ⟨ai_mc_ok (o := 12) ai_mc244 ai_tb12_ok rfl, List.forall_mem_cons.mpr ⟨ai_mc_ok (o := 12) ai_mc245 ai_tb12_ok rfl, List.forall_mem_cons.mpr ⟨ai_mc_ok (o := 12) ai_mc246 ai_tb12_ok rfl, List.forall_mem_cons.mpr ⟨ai_mc_ok (o := 12) ai_mc247 ai_tb12_ok rfl, List.forall_mem_cons.mpr ⟨ai_mc_ok (o := 12) ai_mc248 ai_tb12_ok rfl, List.forall_mem_cons.mpr ⟨ai_mc_ok (o := 12) ai_mc249 ai_tb12_ok rfl, List.forall_mem_cons.mpr ⟨ai_mc_ok (o := 12) ai_mc250 ai_tb12_ok rfl, List.forall_mem_cons.mpr ⟨ai_mc_ok (o := 12) ai_mc251 ai_tb12_ok rfl, List.forall_mem_cons.mpr ⟨ai_mc_ok (o := 12) ai_mc252 ai_tb12_ok rfl, List.forall_mem_cons.mpr ⟨ai_mc_ok (o := 12) ai_mc253 ai_tb12_ok rfl, List.forall_mem_cons.mpr ⟨ai_mc_ok (o := 12) ai_mc254 ai_tb12_ok rfl, List.forall_mem_cons.mpr ⟨ai_mc_ok (o := 12) ai_mc255 ai_tb12_ok rfl, List.forall_mem_cons.mpr ⟨ai_mc_ok (o := 12) ai_mc256 ai_tb12_ok rfl, List.forall_mem_cons.mpr ⟨ai_mc_ok (o := 12) ai_mc257 ai_tb12_ok rfl, List.forall_mem_cons.mpr ⟨ai_mc_ok (o := 12) ai_mc258 ai_tb12_ok rfl, List.forall_mem_cons.mpr ⟨ai_mc_ok (o := 12) ai_mc259 ai_tb12_ok rfl, List.forall_mem_cons.mpr ⟨ai_mc_ok (o := 12) ai_mc260 ai_tb12_ok rfl, List.forall_mem_cons.mpr ⟨ai_mc_ok (o := 12) ai_mc261 ai_tb12_ok rfl, List.forall_mem_cons.mpr ⟨ai_mc_ok (o := 12) ai_mc262 ai_tb12_ok rfl, List.forall_mem_cons.mpr ⟨ai_mc_ok (o := 12) ai_mc263 ai_tb12_ok rfl, List.forall_mem_cons.mpr ⟨ai_mc_ok (o := 12) ai_mc264 ai_tb12_ok rfl, List.forall_mem_cons.mpr ⟨ai_mc_ok (o := 12) ai_mc265 ai_tb12_ok rfl, List.forall_mem_cons.mpr ⟨ai_mc_ok (o := 12) ai_mc266 ai_tb12_ok rfl, List.forall_mem_cons.mpr ⟨ai_mc_ok (o := 12) ai_mc267 ai_tb12_ok rfl, List.forall_mem_cons.mpr ⟨ai_mc_ok (o := 12) ai_mc268 ai_tb12_ok rfl, List.forall_mem_cons.mpr ⟨ai_mc_ok (o := 12) ai_mc269 ai_tb12_ok rfl, List.forall_mem_cons.mpr ⟨ai_mc_ok (o := 12) ai_mc270 ai_tb12_ok rfl, List.forall_mem_cons.mpr ⟨ai_mc_ok (o := 12) ai_mc271 ai_tb12_ok rfl, List.forall_mem_cons.mpr ⟨ai_mc_ok (o := 12) ai_mc272 ai_tb12_ok rfl, List.forall_mem_cons.mpr ⟨ai_mc_ok (o := 12) ai_mc273 ai_tb12_ok rfl, List.forall_mem_cons.mpr ⟨ai_mc_ok (o := 12) ai_mc274 ai_tb12_ok rfl, List.forall_mem_cons.mpr ⟨ai_mc_ok (o := 12) ai_mc275 ai_tb12_ok rfl, List.forall_mem_cons.mpr ⟨ai_mc_ok (o := 12) ai_mc276 ai_tb12_ok rfl, List.forall_mem_cons.mpr ⟨ai_mc_ok (o := 12) ai_mc277 ai_tb12_ok rfl, List.forall_mem_cons.mpr ⟨ai_mc_ok (o := 12) ai_mc278 ai_tb12_ok rfl, List.forall_mem_cons.mpr ⟨ai_mc_ok (o := 12) ai_mc279 ai_tb12_ok rfl, List.forall_mem_cons.mpr ⟨ai_mc_ok (o := 12) ai_mc280 ai_tb12_ok rfl, List.forall_mem_cons.mpr ⟨ai_mc_ok (o := 12) ai_mc281 ai_tb12_ok rfl, List.forall_mem_cons.mpr ⟨ai_mc_ok (o := 12) ai_mc282 ai_tb12_ok rfl, List.forall_mem_cons.mpr ⟨ai_mc_ok (o := 12) ai_mc283 ai_tb12_ok rfl, List.forall_mem_cons.mpr ⟨ai_mc_ok (o := 12) ai_mc284 ai_tb12_ok rfl, List.forall_mem_cons.mpr ⟨ai_mc_ok (o := 12) ai_mc285 ai_tb12_ok rfl, List.forall_mem_cons.mpr ⟨ai_mc_ok (o := 12) ai_mc286 ai_tb12_ok rfl, List.forall_mem_cons.mpr ⟨ai_mc_ok (o := 12) ai_mc287 ai_tb12_ok rfl, List.forall_mem_cons.mpr ⟨ai_mc_ok (o := 12) ai_mc288 ai_tb12_ok rfl, List.forall_mem_cons.mpr ⟨ai_mc_ok (o := 12) ai_mc289 ai_tb12_ok rfl, List.forall_mem_cons.mpr ⟨ai_mc_ok (o := 12) ai_mc290 ai_tb12_ok rfl, List.forall_mem_cons.mpr ⟨ai_mc_ok (o := 12) ai_mc291 ai_tb12_ok rfl, List.forall_mem_cons.mpr ⟨ai_mc_ok (o := 12) ai_mc292 ai_tb12_ok rfl, List.forall_mem_cons.mpr ⟨ai_mc_ok (o := 12) ai_mc293 ai_tb12_ok rfl, List.forall_mem_cons.mpr ⟨ai_mc_ok (o := 12) ai_mc294 ai_tb12_ok rfl, List.forall_mem_cons.mpr ⟨ai_mc_ok (o := 12) ai_mc295 ai_tb12_ok rfl, List.forall_mem_cons.mpr ⟨ai_mc_ok (o := 12) ai_mc296 ai_tb12_ok rfl, List.forall_mem_cons.mpr ⟨ai_mc_ok (o := 12) ai_mc297 ai_tb12_ok rfl, List.forall_mem_cons.mpr ⟨ai_mc_ok (o := 12) ai_mc298 ai_tb12_ok rfl, List.forall_mem_cons.mpr ⟨ai_mc_ok (o := 12) ai_mc299 ai_tb12_ok rfl, List.forall_mem_cons.mpr ⟨ai_mc_ok (o := 12) ai_mc300 ai_tb12_ok rfl, List.forall_mem_cons.mpr ⟨ai_mc_ok (o := 12) ai_mc301 ai_tb12_ok rfl, List.forall_mem_cons.mpr ⟨ai_mc_ok (o := 12) ai_mc302 ai_tb12_ok rfl, List.forall_mem_cons.mpr ⟨ai_mc_ok (o := 12) ai_mc303 ai_tb12_ok rfl, List.forall_mem_cons.mpr ⟨ai_mc_ok (o := 12) ai_mc304 ai_tb12_ok rfl, List.forall_mem_cons.mpr ⟨ai_mc_ok (o := 12) ai_mc305 ai_tb12_ok rfl, List.forall_mem_cons.mpr ⟨ai_mc_ok (o := 12) ai_mc306 ai_tb12_ok rfl, List.forall_mem_cons.mpr ⟨ai_mc_ok (o := 12) ai_mc307 ai_tb12_ok rfl, List.forall_mem_cons.mpr ⟨ai_mc_ok (o := 12) ai_mc308 ai_tb12_ok rfl, List.forall_mem_cons.mpr ⟨ai_mc_ok (o := 12) ai_mc309 ai_tb12_ok rfl, List.forall_mem_cons.mpr ⟨ai_mc_ok (o := 12) ai_mc310 ai_tb12_ok rfl, List.forall_mem_cons.mpr ⟨ai_mc_ok (o := 12) ai_mc311 ai_tb12_ok rfl, List.forall_mem_cons.mpr ⟨ai_mc_ok (o := 14) ai_mc312 ai_tb14_ok rfl, List.forall_mem_cons.mpr ⟨ai_mc_ok (o := 15) ai_mc313 ai_tb15_ok rfl, List.forall_mem_cons.mpr ⟨ai_mc_ok (o := 17) ai_mc314 ai_tb17_ok rfl, List.forall_mem_cons.mpr ⟨ai_mc_ok (o := 17) ai_mc315 ai_tb17_ok rfl, List.forall_mem_cons.mpr ⟨ai_mc_ok (o := 17) ai_mc316 ai_tb17_ok rfl, List.forall_mem_cons.mpr ⟨ai_mc_ok (o := 17) ai_mc317 ai_tb17_ok rfl, List.forall_mem_cons.mpr ⟨ai_mc_ok (o := 17) ai_mc318 ai_tb17_ok rfl, List.forall_mem_cons.mpr ⟨ai_mc_ok (o := 18) ai_mc319 ai_tb18_ok rfl, List.forall_mem_cons.mpr ⟨ai_mc_ok (o := 16) ai_mc324 ai_tb16_ok rfl, List.forall_mem_cons.mpr ⟨ai_mc_ok (o := 16) ai_mc325 ai_tb16_ok rfl, List.forall_mem_cons.mpr ⟨ai_mc_ok (o := 19) ai_mc326 ai_tb19_ok rfl, fun _ h => absurd h List.not_mem_nil⟩⟩⟩⟩⟩⟩⟩⟩⟩⟩⟩⟩⟩⟩⟩⟩⟩⟩⟩⟩⟩⟩⟩⟩⟩⟩⟩⟩⟩⟩⟩⟩⟩⟩⟩⟩⟩⟩⟩⟩⟩⟩⟩⟩⟩⟩⟩⟩⟩⟩⟩⟩⟩⟩⟩⟩⟩⟩⟩⟩⟩⟩⟩⟩⟩⟩⟩⟩⟩⟩⟩⟩⟩⟩⟩⟩⟩⟩⟩⟩⟩⟩⟩⟩⟩⟩⟩⟩⟩⟩⟩⟩⟩⟩⟩⟩⟩⟩⟩⟩⟩⟩⟩⟩⟩⟩⟩⟩⟩⟩⟩⟩⟩⟩⟩⟩⟩⟩⟩⟩⟩⟩⟩⟩⟩⟩⟩⟩⟩⟩⟩⟩⟩⟩⟩⟩⟩⟩⟩⟩⟩⟩⟩⟩⟩⟩⟩⟩⟩⟩⟩⟩⟩⟩⟩⟩⟩⟩⟩⟩⟩⟩⟩⟩⟩⟩⟩⟩⟩⟩⟩⟩⟩⟩⟩⟩⟩⟩⟩⟩⟩⟩⟩⟩⟩⟩⟩⟩⟩⟩⟩⟩⟩⟩⟩⟩⟩⟩⟩⟩⟩⟩⟩⟩⟩⟩⟩⟩⟩⟩⟩⟩⟩⟩⟩⟩⟩⟩⟩⟩⟩⟩⟩⟩⟩⟩⟩⟩⟩⟩⟩⟩⟩⟩⟩⟩⟩⟩⟩⟩⟩⟩⟩⟩⟩⟩⟩⟩⟩⟩⟩⟩⟩⟩⟩⟩⟩⟩⟩⟩⟩⟩⟩⟩⟩⟩⟩⟩⟩⟩⟩⟩⟩⟩⟩⟩⟩⟩⟩⟩⟩⟩⟩⟩⟩⟩⟩⟩⟩⟩⟩⟩⟩⟩⟩⟩⟩⟩⟩⟩⟩⟩⟩⟩⟩⟩⟩⟩⟩⟩⟩⟩⟩⟩⟩⟩⟩⟩⟩⟩⟩⟩
set_option maxRecDepth 100000 in
theorem ai_S_all : ∀ q ∈ ai_tabl, q.2.1.2.2.2.2.1 = none := by
  unfold ai_tabl
  exact List.forall_mem_cons.mpr ⟨rfl, List.forall_mem_cons.mpr ⟨rfl, List.forall_mem_cons.mpr ⟨rfl, List.forall_mem_cons.mpr ⟨rfl, List.forall_mem_cons.mpr ⟨rfl, List.forall_mem_cons.mpr ⟨rfl, List.forall_mem_cons.mpr ⟨rfl, List.forall_mem_cons.mpr ⟨rfl, List.forall_mem_cons.mpr ⟨rfl, List.forall_mem_cons.mpr ⟨rfl, List.forall_mem_cons.mpr ⟨rfl, List.forall_mem_cons.mpr ⟨rfl, List.forall_mem_cons.mpr ⟨rfl, List.forall_mem_cons.mpr ⟨rfl, List.forall_mem_cons.mpr ⟨rfl, List.forall_mem_cons.mpr ⟨rfl, List.forall_mem_cons.mpr ⟨rfl, List.forall_mem_cons.mpr ⟨rfl, List.forall_mem_cons.mpr ⟨rfl, List.forall_mem_cons.mpr ⟨rfl, List.forall_mem_cons.mpr ⟨rfl, List.forall_mem_cons.mpr ⟨rfl, List.forall_mem_cons.mpr ⟨rfl, List.forall_mem_cons.mpr ⟨rfl, List.forall_mem_cons.mpr ⟨rfl, List.forall_mem_cons.mpr ⟨rfl, List.forall_mem_cons.mpr ⟨rfl, List.forall_mem_cons.mpr ⟨rfl, List.forall_mem_cons.mpr ⟨rfl, List.forall_mem_cons.mpr ⟨rfl, List.forall_mem_cons.mpr ⟨rfl, List.forall_mem_cons.mpr ⟨rfl, List.forall_mem_cons.mpr ⟨rfl, List.forall_mem_cons.mpr ⟨rfl, List.forall_mem_cons.mpr ⟨rfl, List.forall_mem_cons.mpr ⟨rfl, List.forall_mem_cons.mpr ⟨rfl, List.forall_mem_cons.mpr ⟨rfl, List.forall_mem_cons.mpr ⟨rfl, List.forall_mem_cons.mpr ⟨rfl, List.forall_mem_cons.mpr ⟨rfl, List.forall_mem_cons.mpr ⟨rfl, List.forall_mem_cons.mpr ⟨rfl, List.forall_mem_cons.mpr ⟨rfl, List.forall_mem_cons.mpr ⟨rfl, List.forall_mem_cons.mpr ⟨rfl, List.forall_mem_cons.mpr ⟨rfl, List.forall_mem_cons.mpr ⟨rfl, List.forall_mem_cons.mpr ⟨rfl, List.forall_mem_cons.mpr ⟨rfl, List.forall_mem_cons.mpr ⟨rfl, List.forall_mem_cons.mpr ⟨rfl, List.forall_mem_cons.mpr ⟨rfl, List.forall_mem_cons.mpr ⟨rfl, List.forall_mem_cons.mpr ⟨rfl, List.forall_mem_cons.mpr ⟨rfl, List.forall_mem_cons.mpr ⟨rfl, List.forall_mem_cons.mpr ⟨rfl, List.forall_mem_cons.mpr ⟨rfl, List.forall_mem_cons.mpr ⟨rfl, List.forall_mem_cons.mpr ⟨rfl, List.forall_mem_cons.mpr ⟨rfl, List.forall_mem_cons.mpr ⟨rfl, List.forall_mem_cons.mpr ⟨rfl, List.forall_mem_cons.mpr ⟨rfl, List.forall_mem_cons.mpr ⟨rfl, List.forall_mem_cons.mpr ⟨rfl, List.forall_mem_cons.mpr ⟨rfl, List.forall_mem_cons.mpr ⟨rfl, List.forall_mem_cons.mpr ⟨rfl, List.forall_mem_cons.mpr ⟨rfl, List.forall_mem_cons.mpr ⟨rfl, List.forall_mem_cons.mpr ⟨rfl, List.forall_mem_cons.mpr ⟨rfl, List.forall_mem_cons.mpr ⟨rfl, List.forall_mem_cons.mpr ⟨rfl, List.forall_mem_cons.mpr ⟨rfl, List.forall_mem_cons.mpr ⟨rfl, List.forall_mem_cons.mpr ⟨rfl, List.forall_mem_cons.mpr ⟨rfl, List.forall_mem_cons.mpr ⟨rfl, List.forall_mem_cons.mpr ⟨rfl, List.forall_mem_cons.mpr ⟨rfl, List.forall_mem_cons.mpr ⟨rfl, List.forall_mem_cons.mpr ⟨rfl, List.forall_mem_cons.mpr ⟨rfl, List.forall_mem_cons.mpr ⟨rfl, List.forall_mem_cons.mpr ⟨rfl, List.forall_mem_cons.mpr ⟨rfl, List.forall_mem_cons.mpr ⟨rfl, List.forall_mem_cons.mpr ⟨rfl, List.forall_mem_cons.mpr ⟨rfl, List.forall_mem_cons.mpr ⟨rfl, List.forall_mem_cons.mpr ⟨rfl, List.forall_mem_cons.mpr ⟨rfl, List.forall_mem_cons.mpr ⟨rfl, List.forall_mem_cons.mpr ⟨rfl, List.forall_mem_cons.mpr ⟨rfl, List.forall_mem_cons.mpr ⟨rfl, List.forall_mem_cons.mpr ⟨rfl, List.forall_mem_cons.mpr ⟨rfl, List.forall_mem_cons.mpr ⟨rfl, List.forall_mem_cons.mpr ⟨rfl, List.forall_mem_cons.mpr ⟨rfl, List.forall_mem_cons.mpr ⟨rfl, List.forall_mem_cons.mpr ⟨rfl, List.forall_mem_cons.mpr ⟨rfl, List.forall_mem_cons.mpr ⟨rfl, List.forall_mem_cons.mpr ⟨rfl, List.forall_mem_cons.mpr ⟨rfl, List.forall_mem_cons.mpr ⟨rfl, List.forall_mem_cons.mpr ⟨rfl, List.forall_mem_cons.mpr ⟨rfl, List.forall_mem_cons.mpr ⟨rfl, List.forall_mem_cons.mpr ⟨rfl, List.forall_mem_cons.mpr ⟨rfl, List.forall_mem_cons.mpr ⟨rfl, List.forall_mem_cons.mpr ⟨rfl, List.forall_mem_cons.mpr ⟨rfl, List.forall_mem_cons.mpr ⟨rfl, List.forall_mem_cons.mpr ⟨rfl, List.forall_mem_cons.mpr ⟨rfl, List.forall_mem_cons.mpr ⟨rfl, List.forall_mem_cons.mpr ⟨rfl, List.forall_mem_cons.mpr ⟨rfl, List.forall_mem_cons.mpr ⟨rfl, List.forall_mem_cons.mpr ⟨rfl, List.forall_mem_cons.mpr ⟨rfl, List.forall_mem_cons.mpr ⟨rfl, List.forall_mem_cons.mpr ⟨rfl, List.forall_mem_cons.mpr ⟨rfl, List.forall_mem_cons.mpr ⟨rfl, List.forall_mem_cons.mpr ⟨rfl, List.forall_mem_cons.mpr ⟨rfl, List.forall_mem_cons.mpr ⟨rfl, List.forall_mem_cons.mpr ⟨rfl, List.forall_mem_cons.mpr ⟨rfl, List.forall_mem_cons.mpr ⟨rfl, List.forall_mem_cons.mpr ⟨rfl, List.forall_mem_cons.mpr ⟨rfl, List.forall_mem_cons.mpr ⟨rfl, List.forall_mem_cons.mpr ⟨rfl, List.forall_mem_cons.mpr ⟨rfl, List.forall_mem_cons.mpr ⟨rfl, List.forall_mem_cons.mpr ⟨rfl, List.forall_mem_cons.mpr ⟨rfl, List.forall_mem_cons.mpr ⟨rfl, List.forall_mem_cons.mpr ⟨rfl, List.forall_mem_cons.mpr ⟨rfl, List.forall_mem_cons.mpr ⟨rfl, List.forall_mem_cons.mpr ⟨rfl, List.forall_mem_cons.mpr ⟨rfl, List.forall_mem_cons.mpr ⟨rfl, List.forall_mem_cons.mpr ⟨rfl, List.forall_mem_cons.mpr ⟨rfl, List.forall_mem_cons.mpr ⟨rfl, List.forall_mem_cons.mpr ⟨rfl, List.forall_mem_cons.mpr ⟨rfl, List.forall_mem_cons.mpr ⟨rfl, List.forall_mem_cons.mpr ⟨rfl, List.forall_mem_cons.mpr ⟨rfl, List.forall_mem_cons.mpr ⟨rfl, List.forall_mem_cons.mpr ⟨rfl, List.forall_mem_cons.mpr ⟨rfl, List.forall_mem_cons.mpr ⟨rfl, List.forall_mem_cons.mpr ⟨rfl, List.forall_mem_cons.mpr ⟨rfl, List.forall_mem_cons.mpr ⟨rfl, List.forall_mem_cons.mpr ⟨rfl, List.forall_mem_cons.mpr ⟨rfl, List.forall_mem_cons.mpr ⟨rfl, List.forall_mem_cons.mpr ⟨rfl, List.forall_mem_cons.mpr ⟨rfl, List.forall_mem_cons.mpr ⟨rfl, List.forall_mem_cons.mpr ⟨rfl, List.forall_mem_cons.mpr ⟨rfl, List.forall_mem_cons.mpr ⟨rfl, List.forall_mem_cons.mpr ⟨rfl, List.forall_mem_cons.mpr ⟨rfl, List.forall_mem_cons.mpr ⟨rfl, List.forall_mem_cons.mpr ⟨rfl, List.forall_mem_cons.mpr ⟨rfl, List.forall_mem_cons.mpr ⟨rfl, List.forall_mem_cons.mpr ⟨rfl, List.forall_mem_cons.mpr ⟨rfl, List.forall_mem_cons.mpr ⟨rfl, List.forall_mem_cons.mpr ⟨rfl, List.forall_mem_cons.mpr ⟨rfl, List.forall_mem_cons.mpr ⟨rfl, List.forall_mem_cons.mpr ⟨rfl, List.forall_mem_cons.mpr ⟨rfl, List.forall_mem_cons.mpr ⟨rfl, List.forall_mem_cons.mpr ⟨rfl, List.forall_mem_cons.mpr ⟨rfl, List.forall_mem_cons.mpr ⟨rfl, List.forall_mem_cons.mpr ⟨rfl, List.forall_mem_cons.mpr ⟨rfl, List.forall_mem_cons.mpr ⟨rfl, List.forall_mem_cons.mpr ⟨rfl, List.forall_mem_cons.mpr ⟨rfl, List.forall_mem_cons.mpr ⟨rfl, List.forall_mem_cons.mpr ⟨rfl, List.forall_mem_cons.mpr ⟨rfl, List.forall_mem_cons.mpr ⟨rfl, List.forall_mem_cons.mpr ⟨rfl, List.forall_mem_cons.mpr ⟨rfl, List.forall_mem_cons.mpr ⟨rfl, List.forall_mem_cons.mpr ⟨rfl, List.forall_mem_cons.mpr ⟨rfl, List.forall_mem_cons.mpr ⟨rfl, List.forall_mem_cons.mpr ⟨rfl, List.forall_mem_cons.mpr ⟨rfl, List.forall_mem_cons.mpr ⟨rfl, List.forall_mem_cons.mpr ⟨rfl, List.forall_mem_cons.mpr ⟨rfl, List.forall_mem_cons.mpr ⟨rfl, List.forall_mem_cons.mpr ⟨rfl, List.forall_mem_cons.mpr ⟨rfl, List.forall_mem_cons.mpr ⟨rfl, List.forall_mem_cons.mpr ⟨rfl, List.forall_mem_cons.mpr ⟨rfl, List.forall_mem_cons.mpr ⟨rfl, List.forall_mem_cons.mpr ⟨rfl, List.forall_mem_cons.mpr ⟨rfl, List.forall_mem_cons.mpr ⟨rfl, List.forall_mem_cons.mpr ⟨rfl, List.forall_mem_cons.mpr ⟨rfl, List.forall_mem_cons.mpr ⟨rfl, List.forall_mem_cons.mpr ⟨rfl, List.forall_mem_cons.mpr ⟨rfl, List.forall_mem_cons.mpr ⟨rfl, List.forall_mem_cons.mpr ⟨rfl, List.forall_mem_cons.mpr ⟨rfl, List.forall_mem_cons.mpr ⟨rfl, List.forall_mem_cons.mpr ⟨rfl, List.forall_mem_cons.mpr ⟨rfl, List.forall_mem_cons.mpr ⟨rfl, List.forall_mem_cons.mpr ⟨rfl, List.forall_mem_cons.mpr ⟨rfl, List.forall_mem_cons.mpr ⟨rfl, List.forall_mem_cons.mpr ⟨rfl, List.forall_mem_cons.mpr ⟨rfl, List.forall_mem_cons.mpr ⟨rfl, List.forall_mem_cons.mpr ⟨rfl, List.forall_mem_cons.mpr ⟨rfl, List.forall_mem_cons.mpr ⟨rfl, List.forall_mem_cons.mpr ⟨rfl, List.forall_mem_cons.mpr ⟨rfl, List.forall_mem_cons.mpr ⟨rfl, List.forall_mem_cons.mpr ⟨rfl, List.forall_mem_cons.mpr ⟨rfl, List.forall_mem_cons.mpr ⟨rfl, List.forall_mem_cons.mpr ⟨rfl, List.forall_mem_cons.mpr ⟨rfl, List.forall_mem_cons.mpr ⟨rfl, List.forall_mem_cons.mpr ⟨rfl, List.forall_mem_cons.mpr ⟨rfl, List.forall_mem_cons.mpr ⟨rfl, List.forall_mem_cons.mpr ⟨rfl, List.forall_mem_cons.mpr ⟨rfl, List.forall_mem_cons.mpr ⟨rfl, List.forall_mem_cons.mpr ⟨rfl, List.forall_mem_cons.mpr ⟨rfl, List.forall_mem_cons.mpr ⟨rfl, List.forall_mem_cons.mpr ⟨rfl, List.forall_mem_cons.mpr ⟨rfl, List.forall_mem_cons.mpr ⟨rfl, List.forall_mem_cons.mpr ⟨rfl, List.forall_mem_cons.mpr ⟨rfl, List.forall_mem_cons.mpr ⟨rfl, List.forall_mem_cons.mpr ⟨rfl, List.forall_mem_cons.mpr ⟨rfl, List.forall_mem_cons.mpr ⟨rfl, List.forall_mem_cons.mpr ⟨rfl, List.forall_mem_cons.mpr ⟨rfl, List.forall_mem_cons.mpr ⟨rfl, List.forall_mem_cons.mpr ⟨rfl, List.forall_mem_cons.mpr ⟨rfl, List.forall_mem_cons.mpr ⟨rfl, List.forall_mem_cons.mpr ⟨rfl, List.forall_mem_cons.mpr ⟨rfl, List.forall_mem_cons.mpr ⟨rfl, List.forall_mem_cons.mpr ⟨rfl, List.forall_mem_cons.mpr ⟨rfl, List.forall_mem_cons.mpr ⟨rfl, List.forall_mem_cons.mpr ⟨rfl, List.forall_mem_cons.mpr ⟨rfl, List.forall_mem_cons.mpr ⟨rfl, List.forall_mem_cons.mpr ⟨rfl, List.forall_mem_cons.mpr ⟨rfl, List.forall_mem_cons.mpr ⟨rfl, List.forall_mem_cons.mpr ⟨rfl, List.forall_mem_cons.mpr ⟨rfl, List.forall_mem_cons.mpr ⟨rfl, List.forall_mem_cons.mpr ⟨rfl, List.forall_mem_cons.mpr ⟨rfl, List.forall_mem_cons.mpr ⟨rfl, List.forall_mem_cons.mpr ⟨rfl, List.forall_mem_cons.mpr ⟨rfl, List.forall_mem_cons.mpr ⟨rfl, List.forall_mem_cons.mpr ⟨rfl, List.forall_mem_cons.mpr ⟨rfl, List.forall_mem_cons.mpr ⟨rfl, List.forall_mem_cons.mpr ⟨rfl, List.forall_mem_cons.mpr ⟨rfl, List.forall_mem_cons.mpr ⟨rfl, List.forall_mem_cons.mpr ⟨rfl, List.forall_mem_cons.mpr ⟨rfl, List.forall_mem_cons.mpr ⟨rfl, List.forall_mem_cons.mpr ⟨rfl, List.forall_mem_cons.mpr ⟨rfl, List.forall_mem_cons.mpr ⟨rfl, List.forall_mem_cons.mpr ⟨rfl, List.forall_mem_cons.mpr ⟨rfl, List.forall_mem_cons.mpr ⟨rfl, List.forall_mem_cons.mpr ⟨rfl, List.forall_mem_cons.mpr ⟨rfl, List.forall_mem_cons.mpr ⟨rfl, List.forall_mem_cons.mpr ⟨rfl, List.forall_mem_cons.mpr ⟨rfl, List.forall_mem_cons.mpr ⟨rfl, List.forall_mem_cons.mpr ⟨rfl, fun _ h => absurd h List.not_mem_nil⟩⟩⟩⟩⟩⟩⟩⟩⟩⟩⟩⟩⟩⟩⟩⟩⟩⟩⟩⟩⟩⟩⟩⟩⟩⟩⟩⟩⟩⟩⟩⟩⟩⟩⟩⟩⟩⟩⟩⟩⟩⟩⟩⟩⟩⟩⟩⟩⟩⟩⟩⟩⟩⟩⟩⟩⟩⟩⟩⟩⟩⟩⟩⟩⟩⟩⟩⟩⟩⟩⟩⟩⟩⟩⟩⟩⟩⟩⟩⟩⟩⟩⟩⟩⟩⟩⟩⟩⟩⟩⟩⟩⟩⟩⟩⟩⟩⟩⟩⟩⟩⟩⟩⟩⟩⟩⟩⟩⟩⟩⟩⟩⟩⟩⟩⟩⟩⟩⟩⟩⟩⟩⟩⟩⟩⟩⟩⟩⟩⟩⟩⟩⟩⟩⟩⟩⟩⟩⟩⟩⟩⟩⟩⟩⟩⟩⟩⟩⟩⟩⟩⟩⟩⟩⟩⟩⟩⟩⟩⟩⟩⟩⟩⟩⟩⟩⟩⟩⟩⟩⟩⟩⟩⟩⟩⟩⟩⟩⟩⟩⟩⟩⟩⟩⟩⟩⟩⟩⟩⟩⟩⟩⟩⟩⟩⟩⟩⟩⟩⟩⟩⟩⟩⟩⟩⟩⟩⟩⟩⟩⟩⟩⟩⟩⟩⟩⟩⟩⟩⟩⟩⟩⟩⟩⟩⟩⟩⟩⟩⟩⟩⟩⟩⟩⟩⟩⟩⟩⟩⟩⟩⟩⟩⟩⟩⟩⟩⟩⟩⟩⟩⟩⟩⟩⟩⟩⟩⟩⟩⟩⟩⟩⟩⟩⟩⟩⟩⟩⟩⟩⟩⟩⟩⟩⟩⟩⟩⟩⟩⟩⟩⟩⟩⟩⟩⟩⟩⟩⟩⟩⟩⟩⟩⟩⟩⟩⟩⟩⟩⟩⟩⟩⟩⟩⟩⟩⟩⟩⟩⟩⟩⟩⟩⟩⟩⟩⟩⟩⟩⟩⟩⟩
theorem ai_S_ok : ∀ mi m, ai_lk ai_tabl mi = some m → m.1.2.2.2.2.1 = none := fun mi m h => ai_S_all (mi, m) (ai_lk_mem _ _ _ h)
theorem ai_M_ok : ∀ mi m, ai_lk ai_tabl mi = some m → ai_Mok mi m := fun mi m h => ai_M_all (mi, m) (ai_lk_mem _ _ _ h)
