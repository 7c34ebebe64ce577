/-! the table is right -/
theorem rwk0 : ckT 0 = true := by decide +kernel
theorem rwk1 : ckT 1 = true := by decide +kernel
theorem rwk2 : ckT 2 = true := by decide +kernel
theorem rwk3 : ckT 3 = true := by decide +kernel
theorem rwk4 : ckT 4 = true := by decide +kernel
theorem rwk5 : ckT 5 = true := by decide +kernel
theorem rwk6 : ckT 6 = true := by decide +kernel
theorem rwk7 : ckT 7 = true := by decide +kernel
theorem rwk8 : ckT 8 = true := by decide +kernel
theorem rwk9 : ckT 9 = true := by decide +kernel
theorem rwk10 : ckT 10 = true := by decide +kernel
theorem rwk11 : ckT 11 = true := by decide +kernel
theorem rwk12 : ckT 12 = true := by decide +kernel
theorem rwk13 : ckT 13 = true := by decide +kernel
theorem rwk14 : ckT 14 = true := by decide +kernel
theorem rwk15 : ckT 15 = true := by decide +kernel
theorem rwk16 : ckT 16 = true := by decide +kernel
theorem rwk17 : ckT 17 = true := by decide +kernel
theorem rwk18 : ckT 18 = true := by decide +kernel
theorem rwk19 : ckT 19 = true := by decide +kernel
theorem rwk20 : ckT 20 = true := by decide +kernel
theorem rwk21 : ckT 21 = true := by decide +kernel
theorem rwk22 : ckT 22 = true := by decide +kernel
theorem rwk23 : ckT 23 = true := by decide +kernel
theorem rwk24 : ckT 24 = true := by decide +kernel
theorem rwk25 : ckT 25 = true := by decide +kernel
theorem rwk26 : ckT 26 = true := by decide +kernel
theorem rwk27 : ckT 27 = true := by decide +kernel
theorem rwk28 : ckT 28 = true := by decide +kernel
theorem rwk29 : ckT 29 = true := by decide +kernel
theorem rwk30 : ckT 30 = true := by decide +kernel
theorem rwk31 : ckT 31 = true := by decide +kernel
theorem rwk32 : ckT 32 = true := by decide +kernel
theorem rwk33 : ckT 33 = true := by decide +kernel
theorem rwk34 : ckT 34 = true := by decide +kernel
theorem rwk35 : ckT 35 = true := by decide +kernel
theorem rwk36 : ckT 36 = true := by decide +kernel
theorem rwk37 : ckT 37 = true := by decide +kernel
theorem rwk38 : ckT 38 = true := by decide +kernel
theorem rwk39 : ckT 39 = true := by decide +kernel
theorem rwk40 : ckT 40 = true := by decide +kernel
theorem rwk41 : ckT 41 = true := by decide +kernel
theorem rwk42 : ckT 42 = true := by decide +kernel
theorem rwk43 : ckT 43 = true := by decide +kernel
theorem rwk44 : ckT 44 = true := by decide +kernel
theorem rwk45 : ckT 45 = true := by decide +kernel
theorem rwk46 : ckT 46 = true := by decide +kernel
theorem rwk47 : ckT 47 = true := by decide +kernel
theorem rwk48 : ckT 48 = true := by decide +kernel
theorem rwk49 : ckT 49 = true := by decide +kernel
theorem rwk50 : ckT 50 = true := by decide +kernel
theorem rwk51 : ckT 51 = true := by decide +kernel
theorem rwk52 : ckT 52 = true := by decide +kernel
theorem rwk53 : ckT 53 = true := by decide +kernel
theorem rwk54 : ckT 54 = true := by decide +kernel
theorem rwk55 : ckT 55 = true := by decide +kernel
theorem rwk56 : ckT 56 = true := by decide +kernel
theorem rwk57 : ckT 57 = true := by decide +kernel
theorem rwk58 : ckT 58 = true := by decide +kernel
theorem rwk59 : ckT 59 = true := by decide +kernel
theorem rwk60 : ckT 60 = true := by decide +kernel
theorem rwk61 : ckT 61 = true := by decide +kernel
theorem rwk62 : ckT 62 = true := by decide +kernel
theorem rwk63 : ckT 63 = true := by decide +kernel
theorem rwk64 : ckT 64 = true := by decide +kernel
theorem rwk65 : ckT 65 = true := by decide +kernel
theorem rwk66 : ckT 66 = true := by decide +kernel
theorem rwk67 : ckT 67 = true := by decide +kernel
theorem rwk68 : ckT 68 = true := by decide +kernel
theorem rwk69 : ckT 69 = true := by decide +kernel
theorem rwk70 : ckT 70 = true := by decide +kernel
theorem rwk71 : ckT 71 = true := by decide +kernel
theorem rwk72 : ckT 72 = true := by decide +kernel
theorem rwk73 : ckT 73 = true := by decide +kernel
theorem rwk74 : ckT 74 = true := by decide +kernel
theorem rwk75 : ckT 75 = true := by decide +kernel
theorem rwk76 : ckT 76 = true := by decide +kernel
theorem rwk77 : ckT 77 = true := by decide +kernel
theorem rwk78 : ckT 78 = true := by decide +kernel
theorem rwk79 : ckT 79 = true := by decide +kernel
theorem rwk80 : ckT 80 = true := by decide +kernel
theorem rwk81 : ckT 81 = true := by decide +kernel
theorem rwk82 : ckT 82 = true := by decide +kernel
theorem rwk83 : ckT 83 = true := by decide +kernel
theorem rwk84 : ckT 84 = true := by decide +kernel
theorem rwk85 : ckT 85 = true := by decide +kernel
theorem rwk86 : ckT 86 = true := by decide +kernel
theorem rwk87 : ckT 87 = true := by decide +kernel
theorem rwk88 : ckT 88 = true := by decide +kernel
theorem rwk89 : ckT 89 = true := by decide +kernel
theorem rwk90 : ckT 90 = true := by decide +kernel
theorem rwk91 : ckT 91 = true := by decide +kernel
theorem rwk92 : ckT 92 = true := by decide +kernel
theorem rwk93 : ckT 93 = true := by decide +kernel
theorem rwk94 : ckT 94 = true := by decide +kernel
theorem rwk95 : ckT 95 = true := by decide +kernel
theorem rwk96 : ckT 96 = true := by decide +kernel
theorem rwk97 : ckT 97 = true := by decide +kernel
theorem rwk98 : ckT 98 = true := by decide +kernel
theorem rwk99 : ckT 99 = true := by decide +kernel
theorem rwk100 : ckT 100 = true := by decide +kernel
theorem rwk101 : ckT 101 = true := by decide +kernel
theorem rwk102 : ckT 102 = true := by decide +kernel
theorem rwk103 : ckT 103 = true := by decide +kernel
theorem rwk104 : ckT 104 = true := by decide +kernel
theorem rwk105 : ckT 105 = true := by decide +kernel
theorem rwk106 : ckT 106 = true := by decide +kernel
theorem rwk107 : ckT 107 = true := by decide +kernel
theorem rwk108 : ckT 108 = true := by decide +kernel
theorem rwk109 : ckT 109 = true := by decide +kernel
theorem rwk110 : ckT 110 = true := by decide +kernel
theorem rwk111 : ckT 111 = true := by decide +kernel
theorem rwk112 : ckT 112 = true := by decide +kernel
theorem rwk113 : ckT 113 = true := by decide +kernel
theorem rwk114 : ckT 114 = true := by decide +kernel
theorem rwk115 : ckT 115 = true := by decide +kernel
theorem rwk116 : ckT 116 = true := by decide +kernel
theorem rwk117 : ckT 117 = true := by decide +kernel
theorem rwk118 : ckT 118 = true := by decide +kernel
theorem rwk119 : ckT 119 = true := by decide +kernel
theorem rwk120 : ckT 120 = true := by decide +kernel
theorem rwk121 : ckT 121 = true := by decide +kernel
theorem rwk122 : ckT 122 = true := by decide +kernel
theorem rwk123 : ckT 123 = true := by decide +kernel
theorem rwk124 : ckT 124 = true := by decide +kernel
theorem rwk125 : ckT 125 = true := by decide +kernel
theorem rwk126 : ckT 126 = true := by decide +kernel
theorem rwk127 : ckT 127 = true := by decide +kernel
theorem rwk128 : ckT 128 = true := by decide +kernel
theorem rwk129 : ckT 129 = true := by decide +kernel
theorem rwk130 : ckT 130 = true := by decide +kernel
theorem rwk131 : ckT 131 = true := by decide +kernel
theorem rwk132 : ckT 132 = true := by decide +kernel
theorem rwk133 : ckT 133 = true := by decide +kernel
theorem rwk134 : ckT 134 = true := by decide +kernel
theorem rwk135 : ckT 135 = true := by decide +kernel
theorem rwk136 : ckT 136 = true := by decide +kernel
theorem rwk137 : ckT 137 = true := by decide +kernel
theorem rwk138 : ckT 138 = true := by decide +kernel
theorem rwk139 : ckT 139 = true := by decide +kernel
theorem rwk140 : ckT 140 = true := by decide +kernel
theorem rwk141 : ckT 141 = true := by decide +kernel
theorem rwk142 : ckT 142 = true := by decide +kernel
theorem rwk143 : ckT 143 = true := by decide +kernel
theorem rwk144 : ckT 144 = true := by decide +kernel
theorem rwk145 : ckT 145 = true := by decide +kernel
theorem rwk146 : ckT 146 = true := by decide +kernel
theorem rwk147 : ckT 147 = true := by decide +kernel
theorem rwk148 : ckT 148 = true := by decide +kernel
theorem rwk149 : ckT 149 = true := by decide +kernel
theorem rwk150 : ckT 150 = true := by decide +kernel
theorem rwk151 : ckT 151 = true := by decide +kernel
theorem rwk152 : ckT 152 = true := by decide +kernel
theorem rwk153 : ckT 153 = true := by decide +kernel
theorem rwk154 : ckT 154 = true := by decide +kernel
theorem rwk155 : ckT 155 = true := by decide +kernel
theorem rwk156 : ckT 156 = true := by decide +kernel
theorem rwk157 : ckT 157 = true := by decide +kernel
theorem rwk158 : ckT 158 = true := by decide +kernel
theorem rwk159 : ckT 159 = true := by decide +kernel
theorem rwk160 : ckT 160 = true := by decide +kernel
theorem rwk161 : ckT 161 = true := by decide +kernel
theorem rwk162 : ckT 162 = true := by decide +kernel
theorem rwk163 : ckT 163 = true := by decide +kernel
theorem rwk164 : ckT 164 = true := by decide +kernel
theorem rwk165 : ckT 165 = true := by decide +kernel
theorem rwk166 : ckT 166 = true := by decide +kernel
theorem rwk167 : ckT 167 = true := by decide +kernel
theorem rwk168 : ckT 168 = true := by decide +kernel
theorem rwk169 : ckT 169 = true := by decide +kernel
theorem rwk170 : ckT 170 = true := by decide +kernel
theorem rwk171 : ckT 171 = true := by decide +kernel
theorem rwk172 : ckT 172 = true := by decide +kernel
theorem rwk173 : ckT 173 = true := by decide +kernel
theorem rwk174 : ckT 174 = true := by decide +kernel
theorem rwk175 : ckT 175 = true := by decide +kernel
theorem rwk176 : ckT 176 = true := by decide +kernel
theorem rwk177 : ckT 177 = true := by decide +kernel
theorem rwk178 : ckT 178 = true := by decide +kernel
theorem rwk179 : ckT 179 = true := by decide +kernel
theorem rwk180 : ckT 180 = true := by decide +kernel
theorem rwk181 : ckT 181 = true := by decide +kernel
theorem rwk182 : ckT 182 = true := by decide +kernel
theorem rwk183 : ckT 183 = true := by decide +kernel
theorem rwk184 : ckT 184 = true := by decide +kernel
theorem rwk185 : ckT 185 = true := by decide +kernel
theorem rwk186 : ckT 186 = true := by decide +kernel
theorem rwk187 : ckT 187 = true := by decide +kernel
theorem rwk188 : ckT 188 = true := by decide +kernel
theorem rwk189 : ckT 189 = true := by decide +kernel
theorem rwk190 : ckT 190 = true := by decide +kernel
theorem rwk191 : ckT 191 = true := by decide +kernel
theorem rwk192 : ckT 192 = true := by decide +kernel
theorem rwk193 : ckT 193 = true := by decide +kernel
theorem rwk194 : ckT 194 = true := by decide +kernel
theorem rwk195 : ckT 195 = true := by decide +kernel
theorem rwk196 : ckT 196 = true := by decide +kernel
theorem rwk197 : ckT 197 = true := by decide +kernel
theorem rwk198 : ckT 198 = true := by decide +kernel
theorem rwk199 : ckT 199 = true := by decide +kernel
theorem rwk200 : ckT 200 = true := by decide +kernel
theorem rwk201 : ckT 201 = true := by decide +kernel
theorem rwk202 : ckT 202 = true := by decide +kernel
theorem rwk203 : ckT 203 = true := by decide +kernel
theorem rwk204 : ckT 204 = true := by decide +kernel
theorem rwk205 : ckT 205 = true := by decide +kernel
theorem rwk206 : ckT 206 = true := by decide +kernel
theorem rwk207 : ckT 207 = true := by decide +kernel
theorem rwk208 : ckT 208 = true := by decide +kernel
theorem rwk209 : ckT 209 = true := by decide +kernel
theorem rwk210 : ckT 210 = true := by decide +kernel
theorem rwk211 : ckT 211 = true := by decide +kernel
theorem rwk212 : ckT 212 = true := by decide +kernel
theorem rwk213 : ckT 213 = true := by decide +kernel
theorem rwk214 : ckT 214 = true := by decide +kernel
theorem rwk215 : ckT 215 = true := by decide +kernel
theorem rwk216 : ckT 216 = true := by decide +kernel
theorem rwk217 : ckT 217 = true := by decide +kernel
theorem rwk218 : ckT 218 = true := by decide +kernel
theorem rwk219 : ckT 219 = true := by decide +kernel
theorem rwk220 : ckT 220 = true := by decide +kernel
theorem rwk221 : ckT 221 = true := by decide +kernel
theorem rwk222 : ckT 222 = true := by decide +kernel
theorem rwk223 : ckT 223 = true := by decide +kernel
theorem rwk224 : ckT 224 = true := by decide +kernel
theorem rwk225 : ckT 225 = true := by decide +kernel
theorem rwk226 : ckT 226 = true := by decide +kernel
theorem rwk227 : ckT 227 = true := by decide +kernel
theorem rwk228 : ckT 228 = true := by decide +kernel
theorem rwk229 : ckT 229 = true := by decide +kernel
theorem rwk230 : ckT 230 = true := by decide +kernel
theorem rwk231 : ckT 231 = true := by decide +kernel
theorem rwk232 : ckT 232 = true := by decide +kernel
theorem rwk233 : ckT 233 = true := by decide +kernel
theorem rwk234 : ckT 234 = true := by decide +kernel
theorem rwk235 : ckT 235 = true := by decide +kernel
theorem rwk236 : ckT 236 = true := by decide +kernel
theorem rwk237 : ckT 237 = true := by decide +kernel
theorem rwk238 : ckT 238 = true := by decide +kernel
theorem rwk239 : ckT 239 = true := by decide +kernel
theorem rwk240 : ckT 240 = true := by decide +kernel
theorem rwk241 : ckT 241 = true := by decide +kernel
theorem rwk242 : ckT 242 = true := by decide +kernel
theorem rwk243 : ckT 243 = true := by decide +kernel
theorem rwk244 : ckT 244 = true := by decide +kernel
theorem rwk245 : ckT 245 = true := by decide +kernel
theorem rwk246 : ckT 246 = true := by decide +kernel
theorem rwk247 : ckT 247 = true := by decide +kernel
theorem rwk248 : ckT 248 = true := by decide +kernel
theorem rwk249 : ckT 249 = true := by decide +kernel
theorem rwk250 : ckT 250 = true := by decide +kernel
theorem rwk251 : ckT 251 = true := by decide +kernel
theorem rwk252 : ckT 252 = true := by decide +kernel
theorem rwk253 : ckT 253 = true := by decide +kernel
theorem rwk254 : ckT 254 = true := by decide +kernel
theorem rwk255 : ckT 255 = true := by decide +kernel
theorem rwk256 : ckT 256 = true := by decide +kernel
theorem rwk257 : ckT 257 = true := by decide +kernel
theorem rwk258 : ckT 258 = true := by decide +kernel
theorem rwk259 : ckT 259 = true := by decide +kernel
theorem rwk260 : ckT 260 = true := by decide +kernel
theorem rwk261 : ckT 261 = true := by decide +kernel
theorem rwk262 : ckT 262 = true := by decide +kernel
theorem rwk263 : ckT 263 = true := by decide +kernel
theorem rwk264 : ckT 264 = true := by decide +kernel
theorem rwk265 : ckT 265 = true := by decide +kernel
theorem rwk266 : ckT 266 = true := by decide +kernel
theorem rwk267 : ckT 267 = true := by decide +kernel
theorem rwk268 : ckT 268 = true := by decide +kernel
theorem rwk269 : ckT 269 = true := by decide +kernel
theorem rwk270 : ckT 270 = true := by decide +kernel
theorem rwk271 : ckT 271 = true := by decide +kernel
theorem rwk272 : ckT 272 = true := by decide +kernel
theorem rwk273 : ckT 273 = true := by decide +kernel
theorem rwk274 : ckT 274 = true := by decide +kernel
theorem rwk275 : ckT 275 = true := by decide +kernel
theorem rwk276 : ckT 276 = true := by decide +kernel
theorem rwk277 : ckT 277 = true := by decide +kernel
theorem rwk278 : ckT 278 = true := by decide +kernel
theorem rwk279 : ckT 279 = true := by decide +kernel
theorem rwk280 : ckT 280 = true := by decide +kernel
theorem rwk281 : ckT 281 = true := by decide +kernel
theorem rwk282 : ckT 282 = true := by decide +kernel
theorem rwk283 : ckT 283 = true := by decide +kernel
theorem rwk284 : ckT 284 = true := by decide +kernel
theorem rwk285 : ckT 285 = true := by decide +kernel
theorem rwk286 : ckT 286 = true := by decide +kernel
theorem rwk287 : ckT 287 = true := by decide +kernel
theorem rwk288 : ckT 288 = true := by decide +kernel
theorem rwk289 : ckT 289 = true := by decide +kernel
theorem rwk290 : ckT 290 = true := by decide +kernel
theorem lwc0 : chkD 291 o291 40 (dropN 0 o291) = true := by decide +kernel
theorem lwc1 : chkD 291 o291 40 (dropN 40 o291) = true := by decide +kernel
theorem lwc2 : chkD 291 o291 40 (dropN 80 o291) = true := by decide +kernel
theorem lwc3 : chkD 291 o291 40 (dropN 120 o291) = true := by decide +kernel
theorem lwc4 : chkD 291 o291 40 (dropN 160 o291) = true := by decide +kernel
theorem lwc5 : chkD 291 o291 40 (dropN 200 o291) = true := by decide +kernel
theorem lwc6 : chkD 291 o291 40 (dropN 240 o291) = true := by decide +kernel
theorem lwc7 : chkD 291 o291 40 (dropN 280 o291) = true := by decide +kernel
theorem lwc8 : chkD 291 o291 40 (dropN 320 o291) = true := by decide +kernel
theorem lwc9 : chkD 291 o291 40 (dropN 360 o291) = true := by decide +kernel
theorem lwc10 : chkD 291 o291 40 (dropN 400 o291) = true := by decide +kernel
theorem lwc11 : chkD 291 o291 40 (dropN 440 o291) = true := by decide +kernel
theorem lwc12 : chkD 291 o291 40 (dropN 480 o291) = true := by decide +kernel
theorem lwc13 : chkD 291 o291 40 (dropN 520 o291) = true := by decide +kernel
theorem lwc14 : chkD 291 o291 40 (dropN 560 o291) = true := by decide +kernel
theorem lwc15 : chkD 291 o291 40 (dropN 600 o291) = true := by decide +kernel
theorem lwc16 : chkD 291 o291 40 (dropN 640 o291) = true := by decide +kernel
theorem lwc17 : chkD 291 o291 40 (dropN 680 o291) = true := by decide +kernel
theorem lwc18 : chkD 291 o291 40 (dropN 720 o291) = true := by decide +kernel
theorem lwc19 : chkD 291 o291 40 (dropN 760 o291) = true := by decide +kernel
theorem lwc20 : chkD 291 o291 40 (dropN 800 o291) = true := by decide +kernel
theorem lwc21 : chkD 291 o291 40 (dropN 840 o291) = true := by decide +kernel
theorem lwc22 : chkD 291 o291 40 (dropN 880 o291) = true := by decide +kernel
theorem lwc23 : chkD 291 o291 40 (dropN 920 o291) = true := by decide +kernel
theorem lwc24 : chkD 291 o291 40 (dropN 960 o291) = true := by decide +kernel
theorem lwh25 : chkL 291 o291 (dropN 1000 o291) = true := by decide +kernel
theorem lwh24 : chkL 291 o291 (dropN 960 o291) = true := chkL_split 40 _ lwc24 (by rw [dropN_eq, List.drop_drop, ← dropN_eq]; exact lwh25)
theorem lwh23 : chkL 291 o291 (dropN 920 o291) = true := chkL_split 40 _ lwc23 (by rw [dropN_eq, List.drop_drop, ← dropN_eq]; exact lwh24)
theorem lwh22 : chkL 291 o291 (dropN 880 o291) = true := chkL_split 40 _ lwc22 (by rw [dropN_eq, List.drop_drop, ← dropN_eq]; exact lwh23)
theorem lwh21 : chkL 291 o291 (dropN 840 o291) = true := chkL_split 40 _ lwc21 (by rw [dropN_eq, List.drop_drop, ← dropN_eq]; exact lwh22)
theorem lwh20 : chkL 291 o291 (dropN 800 o291) = true := chkL_split 40 _ lwc20 (by rw [dropN_eq, List.drop_drop, ← dropN_eq]; exact lwh21)
theorem lwh19 : chkL 291 o291 (dropN 760 o291) = true := chkL_split 40 _ lwc19 (by rw [dropN_eq, List.drop_drop, ← dropN_eq]; exact lwh20)
theorem lwh18 : chkL 291 o291 (dropN 720 o291) = true := chkL_split 40 _ lwc18 (by rw [dropN_eq, List.drop_drop, ← dropN_eq]; exact lwh19)
theorem lwh17 : chkL 291 o291 (dropN 680 o291) = true := chkL_split 40 _ lwc17 (by rw [dropN_eq, List.drop_drop, ← dropN_eq]; exact lwh18)
theorem lwh16 : chkL 291 o291 (dropN 640 o291) = true := chkL_split 40 _ lwc16 (by rw [dropN_eq, List.drop_drop, ← dropN_eq]; exact lwh17)
theorem lwh15 : chkL 291 o291 (dropN 600 o291) = true := chkL_split 40 _ lwc15 (by rw [dropN_eq, List.drop_drop, ← dropN_eq]; exact lwh16)
theorem lwh14 : chkL 291 o291 (dropN 560 o291) = true := chkL_split 40 _ lwc14 (by rw [dropN_eq, List.drop_drop, ← dropN_eq]; exact lwh15)
theorem lwh13 : chkL 291 o291 (dropN 520 o291) = true := chkL_split 40 _ lwc13 (by rw [dropN_eq, List.drop_drop, ← dropN_eq]; exact lwh14)
theorem lwh12 : chkL 291 o291 (dropN 480 o291) = true := chkL_split 40 _ lwc12 (by rw [dropN_eq, List.drop_drop, ← dropN_eq]; exact lwh13)
theorem lwh11 : chkL 291 o291 (dropN 440 o291) = true := chkL_split 40 _ lwc11 (by rw [dropN_eq, List.drop_drop, ← dropN_eq]; exact lwh12)
theorem lwh10 : chkL 291 o291 (dropN 400 o291) = true := chkL_split 40 _ lwc10 (by rw [dropN_eq, List.drop_drop, ← dropN_eq]; exact lwh11)
theorem lwh9 : chkL 291 o291 (dropN 360 o291) = true := chkL_split 40 _ lwc9 (by rw [dropN_eq, List.drop_drop, ← dropN_eq]; exact lwh10)
theorem lwh8 : chkL 291 o291 (dropN 320 o291) = true := chkL_split 40 _ lwc8 (by rw [dropN_eq, List.drop_drop, ← dropN_eq]; exact lwh9)
theorem lwh7 : chkL 291 o291 (dropN 280 o291) = true := chkL_split 40 _ lwc7 (by rw [dropN_eq, List.drop_drop, ← dropN_eq]; exact lwh8)
theorem lwh6 : chkL 291 o291 (dropN 240 o291) = true := chkL_split 40 _ lwc6 (by rw [dropN_eq, List.drop_drop, ← dropN_eq]; exact lwh7)
theorem lwh5 : chkL 291 o291 (dropN 200 o291) = true := chkL_split 40 _ lwc5 (by rw [dropN_eq, List.drop_drop, ← dropN_eq]; exact lwh6)
theorem lwh4 : chkL 291 o291 (dropN 160 o291) = true := chkL_split 40 _ lwc4 (by rw [dropN_eq, List.drop_drop, ← dropN_eq]; exact lwh5)
theorem lwh3 : chkL 291 o291 (dropN 120 o291) = true := chkL_split 40 _ lwc3 (by rw [dropN_eq, List.drop_drop, ← dropN_eq]; exact lwh4)
theorem lwh2 : chkL 291 o291 (dropN 80 o291) = true := chkL_split 40 _ lwc2 (by rw [dropN_eq, List.drop_drop, ← dropN_eq]; exact lwh3)
theorem lwh1 : chkL 291 o291 (dropN 40 o291) = true := chkL_split 40 _ lwc1 (by rw [dropN_eq, List.drop_drop, ← dropN_eq]; exact lwh2)
theorem lwh0 : chkL 291 o291 (dropN 0 o291) = true := chkL_split 40 _ lwc0 (by rw [dropN_eq, List.drop_drop, ← dropN_eq]; exact lwh1)
theorem rwk291 : ckT 291 = true := by
  have h : chkL 291 o291 o291 = true := lwh0
  have h2 : (Nat.beq 4 (mmaxl 291) && (Nat.beq 15 (mcls 291) && true)) = true := by decide +kernel
  show (chkL 291 o291 o291 && (Nat.beq 4 (mmaxl 291) && (Nat.beq 15 (mcls 291) && true))) = true
  rw [h, h2]
  rfl
set_option maxRecDepth 100000 in
theorem rwk_l : ∀ k ∈ [0, 1, 2, 3, 4, 5, 6, 7, 8, 9, 10, 11, 12, 13, 14, 15, 16, 17, 18, 19, 20, 21, 22, 23, 24, 25, 26, 27, 28, 29, 30, 31, 32, 33, 34, 35, 36, 37, 38, 39, 40, 41, 42, 43, 44, 45, 46, 47, 48, 49, 50, 51, 52, 53, 54, 55, 56, 57, 58, 59, 60, 61, 62, 63, 64, 65, 66, 67, 68, 69, 70, 71, 72, 73, 74, 75, 76, 77, 78, 79, 80, 81, 82, 83, 84, 85, 86, 87, 88, 89, 90, 91, 92, 93, 94, 95, 96, 97, 98, 99, 100, 101, 102, 103, 104, 105, 106, 107, 108, 109, 110, 111, 112, 113, 114, 115, 116, 117, 118, 119, 120, 121, 122, 123, 124, 125, 126, 127, 128, 129, 130, 131, 132, 133, 134, 135, 136, 137, 138, 139, 140, 141, 142, 143, 144, 145, 146, 147, 148, 149, 150, 151, 152, 153, 154, 155, 156, 157, 158, 159, 160, 161, 162, 163, 164, 165, 166, 167, 168, 169, 170, 171, 172, 173, 174, 175, 176, 177, 178, 179, 180, 181, 182, 183, 184, 185, 186, 187, 188, 189, 190, 191, 192, 193, 194, 195, 196, 197, 198, 199, 200, 201, 202, 203, 204, 205, 206, 207, 208, 209, 210, 211, 212, 213, 214, 215, 216, 217, 218, 219, 220, 221, 222, 223, 224, 225, 226, 227, 228, 229, 230, 231, 232, 233, 234, 235, 236, 237, 238, 239, 240, 241, 242, 243, 244, 245, 246, 247, 248, 249, 250, 251, 252, 253, 254, 255, 256, 257, 258, 259, 260, 261, 262, 263, 264, 265, 266, 267, 268, 269, 270, 271, 272, 273, 274, 275, 276, 277, 278, 279, 280, 281, 282, 283, 284, 285, 286, 287, 288, 289, 290, 291], ckT k = true := List.forall_mem_cons.mpr ⟨rwk0, List.forall_mem_cons.mpr ⟨rwk1, List.forall_mem_cons.mpr ⟨rwk2, List.forall_mem_cons.mpr ⟨rwk3, List.forall_mem_cons.mpr ⟨rwk4, List.forall_mem_cons.mpr ⟨rwk5, List.forall_mem_cons.mpr ⟨rwk6, List.forall_mem_cons.mpr ⟨rwk7, List.forall_mem_cons.mpr ⟨rwk8, List.forall_mem_cons.mpr ⟨rwk9, List.forall_mem_cons.mpr ⟨rwk10, List.forall_mem_cons.mpr ⟨rwk11, List.forall_mem_cons.mpr ⟨rwk12, List.forall_mem_cons.mpr ⟨rwk13, List.forall_mem_cons.mpr ⟨rwk14, List.forall_mem_cons.mpr ⟨rwk15, List.forall_mem_cons.mpr ⟨rwk16, List.forall_mem_cons.mpr ⟨rwk17, List.forall_mem_cons.mpr ⟨rwk18, List.forall_mem_cons.mpr ⟨rwk19, List.forall_mem_cons.mpr ⟨rwk20, List.forall_mem_cons.mpr ⟨rwk21, List.forall_mem_cons.mpr ⟨rwk22, List.forall_mem_cons.mpr ⟨rwk23, List.forall_mem_cons.mpr ⟨rwk24, List.forall_mem_cons.mpr ⟨rwk25, List.forall_mem_cons.mpr ⟨rwk26, List.forall_mem_cons.mpr ⟨rwk27, List.forall_mem_cons.mpr ⟨rwk28, List.forall_mem_cons.mpr ⟨rwk29, List.forall_mem_cons.mpr ⟨rwk30, List.forall_mem_cons.mpr ⟨rwk31, List.forall_mem_cons.mpr ⟨rwk32, List.forall_mem_cons.mpr ⟨rwk33, List.forall_mem_cons.mpr ⟨rwk34, List.forall_mem_cons.mpr ⟨rwk35, List.forall_mem_cons.mpr ⟨rwk36, List.forall_mem_cons.mpr ⟨rwk37, List.forall_mem_cons.mpr ⟨rwk38, List.forall_mem_cons.mpr ⟨rwk39, List.forall_mem_cons.mpr ⟨rwk40, List.forall_mem_cons.mpr ⟨rwk41, List.forall_mem_cons.mpr ⟨rwk42, List.forall_mem_cons.mpr ⟨rwk43, List.forall_mem_cons.mpr ⟨rwk44, List.forall_mem_cons.mpr ⟨rwk45, List.forall_mem_cons.mpr ⟨rwk46, List.forall_mem_cons.mpr ⟨rwk47, List.forall_mem_cons.mpr ⟨rwk48, List.forall_mem_cons.mpr ⟨rwk49, List.forall_mem_cons.mpr ⟨rwk50, List.forall_mem_cons.mpr ⟨rwk51, List.forall_mem_cons.mpr ⟨rwk52, List.forall_mem_cons.mpr ⟨rwk53, List.forall_mem_cons.mpr ⟨rwk54, List.forall_mem_cons.mpr ⟨rwk55, List.forall_mem_cons.mpr ⟨rwk56, List.forall_mem_cons.mpr ⟨rwk57, List.forall_mem_cons.mpr ⟨rwk58, List.forall_mem_cons.mpr ⟨rwk59, List.forall_mem_cons.mpr ⟨rwk60, List.forall_mem_cons.mpr ⟨rwk61, List.forall_mem_cons.mpr ⟨rwk62, List.forall_mem_cons.mpr ⟨rwk63, List.forall_mem_cons.mpr ⟨rwk64, List.forall_mem_cons.mpr ⟨rwk65, List.forall_mem_cons.mpr ⟨rwk66, List.forall_mem_cons.mpr ⟨rwk67, List.forall_mem_cons.mpr ⟨rwk68, List.forall_mem_cons.mpr ⟨rwk69, List.forall_mem_cons.mpr ⟨rwk70, List.forall_mem_cons.mpr ⟨rwk71, List.forall_mem_cons.mpr ⟨rwk72, List.forall_mem_cons.mpr ⟨rwk73, List.forall_mem_cons.mpr ⟨rwk74, List.forall_mem_cons.mpr ⟨rwk75, List.forall_mem_cons.mpr ⟨rwk76, List.forall_mem_cons.mpr ⟨rwk77, List.forall_mem_cons.mpr ⟨rwk78, List.forall_mem_cons.mpr ⟨rwk79, List.forall_mem_cons.mpr ⟨rwk80, List.forall_mem_cons.mpr ⟨rwk81, List.forall_mem_cons.mpr ⟨rwk82, List.forall_mem_cons.mpr ⟨rwk83, List.forall_mem_cons.mpr ⟨rwk84, List.forall_mem_cons.mpr ⟨rwk85, List.forall_mem_cons.mpr ⟨rwk86, List.forall_mem_cons.mpr ⟨rwk87, List.forall_mem_cons.mpr ⟨rwk88, List.forall_mem_cons.mpr ⟨rwk89, List.forall_mem_cons.mpr ⟨rwk90, List.forall_mem_cons.mpr ⟨rwk91, List.forall_mem_cons.mpr ⟨rwk92, List.forall_mem_cons.mpr ⟨rwk93, List.forall_mem_cons.mpr ⟨rwk94, List.forall_mem_cons.mpr ⟨rwk95, List.forall_mem_cons.mpr ⟨rwk96, List.forall_mem_cons.mpr ⟨rwk97, List.forall_mem_cons.mpr ⟨rwk98, List.forall_mem_cons.mpr ⟨rwk99, List.forall_mem_cons.mpr ⟨rwk100, List.forall_mem_cons.mpr ⟨rwk101, List.forall_mem_cons.mpr ⟨rwk102, List.forall_mem_cons.mpr ⟨rwk103, List.forall_mem_cons.mpr ⟨rwk104, List.forall_mem_cons.mpr ⟨rwk105, List.forall_mem_cons.mpr ⟨rwk106, List.forall_mem_cons.mpr ⟨rwk107, List.forall_mem_cons.mpr ⟨rwk108, List.forall_mem_cons.mpr ⟨rwk109, List.forall_mem_cons.mpr ⟨rwk110, List.forall_mem_cons.mpr ⟨rwk111, List.forall_mem_cons.mpr ⟨rwk112, List.forall_mem_cons.mpr ⟨rwk113, List.forall_mem_cons.mpr ⟨rwk114, List.forall_mem_cons.mpr ⟨rwk115, List.forall_mem_cons.mpr ⟨rwk116, List.forall_mem_cons.mpr ⟨rwk117, List.forall_mem_cons.mpr ⟨rwk118, List.forall_mem_cons.mpr ⟨rwk119, List.forall_mem_cons.mpr ⟨rwk120, List.forall_mem_cons.mpr ⟨rwk121, List.forall_mem_cons.mpr ⟨rwk122, List.forall_mem_cons.mpr ⟨rwk123, List.forall_mem_cons.mpr ⟨rwk124, List.forall_mem_cons.mpr ⟨rwk125, List.forall_mem_cons.mpr ⟨rwk126, List.forall_mem_cons.mpr ⟨rwk127, List.forall_mem_cons.mpr ⟨rwk128, List.forall_mem_cons.mpr ⟨rwk129, List.forall_mem_cons.mpr ⟨rwk130, List.forall_mem_cons.mpr ⟨rwk131, List.forall_mem_cons.mpr ⟨rwk132, List.forall_mem_cons.mpr ⟨rwk133, List.forall_mem_cons.mpr ⟨rwk134, List.forall_mem_cons.mpr ⟨rwk135, List.forall_mem_cons.mpr ⟨rwk136, List.forall_mem_cons.mpr ⟨rwk137, List.forall_mem_cons.mpr ⟨rwk138, List.forall_mem_cons.mpr ⟨rwk139, List.forall_mem_cons.mpr ⟨rwk140, List.forall_mem_cons.mpr ⟨rwk141, List.forall_mem_cons.mpr ⟨rwk142, List.forall_mem_cons.mpr ⟨rwk143, List.forall_mem_cons.mpr ⟨rwk144, List.forall_mem_cons.mpr ⟨rwk145, List.forall_mem_cons.mpr ⟨rwk146, List.forall_mem_cons.mpr ⟨rwk147, List.forall_mem_cons.mpr ⟨rwk148, List.forall_mem_cons.mpr ⟨rwk149, List.forall_mem_cons.mpr ⟨rwk150, List.forall_mem_cons.mpr ⟨rwk151, List.forall_mem_cons.mpr ⟨rwk152, List.forall_mem_cons.mpr ⟨rwk153, List.forall_mem_cons.mpr ⟨rwk154, List.forall_mem_cons.mpr ⟨rwk155, List.forall_mem_cons.mpr ⟨rwk156, List.forall_mem_cons.mpr ⟨rwk157, List.forall_mem_cons.mpr ⟨rwk158, List.forall_mem_cons.mpr ⟨rwk159, List.forall_mem_cons.mpr ⟨rwk160, List.forall_mem_cons.mpr ⟨rwk161, List.forall_mem_cons.mpr ⟨rwk162, List.forall_mem_cons.mpr ⟨rwk163, List.forall_mem_cons.mpr ⟨rwk164, List.forall_mem_cons.mpr ⟨rwk165, List.forall_mem_cons.mpr ⟨rwk166, List.forall_mem_cons.mpr ⟨rwk167, List.forall_mem_cons.mpr ⟨rwk168, List.forall_mem_cons.mpr ⟨rwk169, List.forall_mem_cons.mpr ⟨rwk170, List.forall_mem_cons.mpr ⟨rwk171, List.forall_mem_cons.mpr ⟨rwk172, List.forall_mem_cons.mpr ⟨rwk173, List.forall_mem_cons.mpr ⟨rwk174, List.forall_mem_cons.mpr ⟨rwk175, List.forall_mem_cons.mpr ⟨rwk176, List.forall_mem_cons.mpr ⟨rwk177, List.forall_mem_cons.mpr ⟨rwk178, List.forall_mem_cons.mpr ⟨rwk179, List.forall_mem_cons.mpr ⟨rwk180, List.forall_mem_cons.mpr ⟨rwk181, List.forall_mem_cons.mpr ⟨rwk182, List.forall_mem_cons.mpr ⟨rwk183, List.forall_mem_cons.mpr ⟨rwk184, List.forall_mem_cons.mpr ⟨rwk185, List.forall_mem_cons.mpr ⟨rwk186, List.forall_mem_cons.mpr ⟨rwk187, List.forall_mem_cons.mpr ⟨rwk188, List.forall_mem_cons.mpr ⟨rwk189, List.forall_mem_cons.mpr ⟨rwk190, List.forall_mem_cons.mpr ⟨rwk191, List.forall_mem_cons.mpr ⟨rwk192, List.forall_mem_cons.mpr ⟨rwk193, List.forall_mem_cons.mpr ⟨rwk194, List.forall_mem_cons.mpr ⟨rwk195, List.forall_mem_cons.mpr ⟨rwk196, List.forall_mem_cons.mpr ⟨rwk197, List.forall_mem_cons.mpr ⟨rwk198, List.forall_mem_cons.mpr ⟨rwk199, List.forall_mem_cons.mpr ⟨rwk200, List.forall_mem_cons.mpr ⟨rwk201, List.forall_mem_cons.mpr ⟨rwk202, List.forall_mem_cons.mpr ⟨rwk203, List.forall_mem_cons.mpr ⟨rwk204, List.forall_mem_cons.mpr ⟨rwk205, List.forall_mem_cons.mpr ⟨rwk206, List.forall_mem_cons.mpr ⟨rwk207, List.forall_mem_cons.mpr ⟨rwk208, List.forall_mem_cons.mpr ⟨rwk209, List.forall_mem_cons.mpr ⟨rwk210, List.forall_mem_cons.mpr ⟨rwk211, List.forall_mem_cons.mpr ⟨rwk212, List.forall_mem_cons.mpr ⟨rwk213, List.forall_mem_cons.mpr ⟨rwk214, List.forall_mem_cons.mpr ⟨rwk215, List.forall_mem_cons.mpr ⟨rwk216, List.forall_mem_cons.mpr ⟨rwk217, List.forall_mem_cons.mpr ⟨rwk218, List.forall_mem_cons.mpr ⟨rwk219, List.forall_mem_cons.mpr ⟨rwk220, List.forall_mem_cons.mpr ⟨rwk221, List.forall_mem_cons.mpr ⟨rwk222, List.forall_mem_cons.mpr ⟨rwk223, List.forall_mem_cons.mpr ⟨rwk224, List.forall_mem_cons.mpr ⟨rwk225, List.forall_mem_cons.mpr ⟨rwk226, List.forall_mem_cons.mpr ⟨rwk227, List.forall_mem_cons.mpr ⟨rwk228, List.forall_mem_cons.mpr ⟨rwk229, List.forall_mem_cons.mpr ⟨rwk230, List.forall_mem_cons.mpr ⟨rwk231, List.forall_mem_cons.mpr ⟨rwk232, List.forall_mem_cons.mpr ⟨rwk233, List.forall_mem_cons.mpr ⟨rwk234, List.forall_mem_cons.mpr ⟨rwk235, List.forall_mem_cons.mpr ⟨rwk236, List.forall_mem_cons.mpr ⟨rwk237, List.forall_mem_cons.mpr ⟨rwk238, List.forall_mem_cons.mpr ⟨rwk239, List.forall_mem_cons.mpr ⟨rwk240, List.forall_mem_cons.mpr ⟨rwk241, List.forall_mem_cons.mpr ⟨rwk242, List.forall_mem_cons.mpr ⟨rwk243, List.forall_mem_cons.mpr ⟨rwk244, List.forall_mem_cons.mpr ⟨rwk245, List.forall_mem_cons.mpr ⟨rwk246, List.forall_mem_cons.mpr ⟨rwk247, List.forall_mem_cons.mpr ⟨rwk248, List.forall_mem_cons.mpr ⟨rwk249, List.forall_mem_cons.mpr ⟨rwk250, List.forall_mem_cons.mpr ⟨rwk251, List.forall_mem_cons.mpr ⟨rwk252, List.forall_mem_cons.mpr ⟨rwk253, List.forall_mem_cons.mpr ⟨rwk254, List.forall_mem_cons.mpr ⟨rwk255, List.forall_mem_cons.mpr ⟨rwk256, List.forall_mem_cons.mpr ⟨rwk257, List.forall_mem_cons.mpr ⟨rwk258, List.forall_mem_cons.mpr ⟨rwk259, List.forall_mem_cons.mpr ⟨rwk260, List.forall_mem_cons.mpr ⟨rwk261, List.forall_mem_cons.mpr ⟨rwk262, List.forall_mem_cons.mpr ⟨rwk263, List.forall_mem_cons.mpr ⟨rwk264, List.forall_mem_cons.mpr ⟨rwk265, List.forall_mem_cons.mpr ⟨rwk266, List.forall_mem_cons.mpr ⟨rwk267, List.forall_mem_cons.mpr ⟨rwk268, List.forall_mem_cons.mpr ⟨rwk269, List.forall_mem_cons.mpr ⟨rwk270, List.forall_mem_cons.mpr ⟨rwk271, List.forall_mem_cons.mpr ⟨rwk272, List.forall_mem_cons.mpr ⟨rwk273, List.forall_mem_cons.mpr ⟨rwk274, List.forall_mem_cons.mpr ⟨rwk275, List.forall_mem_cons.mpr ⟨rwk276, List.forall_mem_cons.mpr ⟨rwk277, List.forall_mem_cons.mpr ⟨rwk278, List.forall_mem_cons.mpr ⟨rwk279, List.forall_mem_cons.mpr ⟨rwk280, List.forall_mem_cons.mpr ⟨rwk281, List.forall_mem_cons.mpr ⟨rwk282, List.forall_mem_cons.mpr ⟨rwk283, List.forall_mem_cons.mpr ⟨rwk284, List.forall_mem_cons.mpr ⟨rwk285, List.forall_mem_cons.mpr ⟨rwk286, List.forall_mem_cons.mpr ⟨rwk287, List.forall_mem_cons.mpr ⟨rwk288, List.forall_mem_cons.mpr ⟨rwk289, List.forall_mem_cons.mpr ⟨rwk290, List.forall_mem_cons.mpr ⟨rwk291, (fun q h => absurd h List.not_mem_nil)⟩⟩⟩⟩⟩⟩⟩⟩⟩⟩⟩⟩⟩⟩⟩⟩⟩⟩⟩⟩⟩⟩⟩⟩⟩⟩⟩⟩⟩⟩⟩⟩⟩⟩⟩⟩⟩⟩⟩⟩⟩⟩⟩⟩⟩⟩⟩⟩⟩⟩⟩⟩⟩⟩⟩⟩⟩⟩⟩⟩⟩⟩⟩⟩⟩⟩⟩⟩⟩⟩⟩⟩⟩⟩⟩⟩⟩⟩⟩⟩⟩⟩⟩⟩⟩⟩⟩⟩⟩⟩⟩⟩⟩⟩⟩⟩⟩⟩⟩⟩⟩⟩⟩⟩⟩⟩⟩⟩⟩⟩⟩⟩⟩⟩⟩⟩⟩⟩⟩⟩⟩⟩⟩⟩⟩⟩⟩⟩⟩⟩⟩⟩⟩⟩⟩⟩⟩⟩⟩⟩⟩⟩⟩⟩⟩⟩⟩⟩⟩⟩⟩⟩⟩⟩⟩⟩⟩⟩⟩⟩⟩⟩⟩⟩⟩⟩⟩⟩⟩⟩⟩⟩⟩⟩⟩⟩⟩⟩⟩⟩⟩⟩⟩⟩⟩⟩⟩⟩⟩⟩⟩⟩⟩⟩⟩⟩⟩⟩⟩⟩⟩⟩⟩⟩⟩⟩⟩⟩⟩⟩⟩⟩⟩⟩⟩⟩⟩⟩⟩⟩⟩⟩⟩⟩⟩⟩⟩⟩⟩⟩⟩⟩⟩⟩⟩⟩⟩⟩⟩⟩⟩⟩⟩⟩⟩⟩⟩⟩⟩⟩⟩⟩⟩⟩⟩⟩⟩⟩⟩⟩⟩⟩⟩⟩⟩⟩⟩⟩⟩⟩⟩⟩⟩⟩⟩⟩⟩⟩⟩⟩⟩⟩⟩⟩⟩⟩⟩⟩⟩⟩⟩⟩
theorem rg_l : [0, 1, 2, 3, 4, 5, 6, 7, 8, 9, 10, 11, 12, 13, 14, 15, 16, 17, 18, 19, 20, 21, 22, 23, 24, 25, 26, 27, 28, 29, 30, 31, 32, 33, 34, 35, 36, 37, 38, 39, 40, 41, 42, 43, 44, 45, 46, 47, 48, 49, 50, 51, 52, 53, 54, 55, 56, 57, 58, 59, 60, 61, 62, 63, 64, 65, 66, 67, 68, 69, 70, 71, 72, 73, 74, 75, 76, 77, 78, 79, 80, 81, 82, 83, 84, 85, 86, 87, 88, 89, 90, 91, 92, 93, 94, 95, 96, 97, 98, 99, 100, 101, 102, 103, 104, 105, 106, 107, 108, 109, 110, 111, 112, 113, 114, 115, 116, 117, 118, 119, 120, 121, 122, 123, 124, 125, 126, 127, 128, 129, 130, 131, 132, 133, 134, 135, 136, 137, 138, 139, 140, 141, 142, 143, 144, 145, 146, 147, 148, 149, 150, 151, 152, 153, 154, 155, 156, 157, 158, 159, 160, 161, 162, 163, 164, 165, 166, 167, 168, 169, 170, 171, 172, 173, 174, 175, 176, 177, 178, 179, 180, 181, 182, 183, 184, 185, 186, 187, 188, 189, 190, 191, 192, 193, 194, 195, 196, 197, 198, 199, 200, 201, 202, 203, 204, 205, 206, 207, 208, 209, 210, 211, 212, 213, 214, 215, 216, 217, 218, 219, 220, 221, 222, 223, 224, 225, 226, 227, 228, 229, 230, 231, 232, 233, 234, 235, 236, 237, 238, 239, 240, 241, 242, 243, 244, 245, 246, 247, 248, 249, 250, 251, 252, 253, 254, 255, 256, 257, 258, 259, 260, 261, 262, 263, 264, 265, 266, 267, 268, 269, 270, 271, 272, 273, 274, 275, 276, 277, 278, 279, 280, 281, 282, 283, 284, 285, 286, 287, 288, 289, 290, 291] = List.range nT := by decide +kernel
theorem chk_all : ∀ k : Nat, k < nT → ckT k = true := fun k h => rwk_l k (by rw [rg_l]; exact List.mem_range.mpr h)
