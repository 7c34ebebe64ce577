/-! the law: its turns -/
set_option maxRecDepth 100000 in
theorem law_c0 {d L : Nat} {xs : Nat → Int32} {X Y n : Nat} {Γ : Nat → Nat} {M : MM} {Q : Option MV → MM → Prop} (hd : 20 ≤ d) (hI : INV L xs X Y n n Γ M) (hA : AL X Y Γ M) (hn : n ≤ 512) (h6 : 6 * n + 6 ≤ L) (hL : L ≤ 3072) (kk : ∀ Γ2 M2, INV L xs X Y (n + 1) (n + 1) Γ2 M2 → AL X Y Γ2 M2 → M2.1 ≤ M.1 + 19 → M2.2.1 ≤ M.2.1 + 2600 → Wm d 291 1453 (lsn X Y n) [] M2 Q) : Wm d 291 212 (lsn X Y n) [] M Q := by
  refine m_aload (i := 1) (show decode (mcode 291) 212 = _ by decide +kernel) rfl ?_
  refine law_ld (j := 1) hI h6 hL (by decide) rfl rfl (show decode (mcode 291) 213 = _ by decide +kernel) (show decode (mcode 291) 214 = _ by decide +kernel) (show decode (mcode 291) 215 = _ by decide +kernel) (show decode (mcode 291) 216 = _ by decide +kernel) (show decode (mcode 291) 217 = _ by decide +kernel) ?_
  refine law_ld (j := 2) hI h6 hL (by decide) rfl rfl (show decode (mcode 291) 218 = _ by decide +kernel) (show decode (mcode 291) 219 = _ by decide +kernel) (show decode (mcode 291) 220 = _ by decide +kernel) (show decode (mcode 291) 221 = _ by decide +kernel) (show decode (mcode 291) 222 = _ by decide +kernel) ?_
  refine law_X (na := 2) (t := t_k118) (ρ := rl [0, scr L xs (6 * n + 1), scr L xs (6 * n + 2)]) [vi (scr L xs (6 * n + 1)), vi (scr L xs (6 * n + 2))] [] (fun g => KOKx_of (k_k118 g)) (by decide +kernel) hI (preX_ok (by decide +kernel) (by omega) hI) hd (BO_rl ⟨⟨by decide, by decide⟩, scr_b, scr_b, trivial⟩) ⟨⟨rfl, hI.2.2.2.2.2.1, by decide⟩, ar1 (i := 1), ar1 (i := 2), trivial⟩ (show decode (mcode 291) 223 = _ by decide +kernel) (show pool (mcls 291) 13 = _ by decide +kernel) rfl (by decide +kernel) (by decide +kernel) (by decide +kernel) (Nat.le_of_ble_eq_true rfl) (fun r1 Γ1 M1 hI1 a1 b1 R1 F1 G1 _ => ?_)
  have A1 := AL_keep (t := t_k118) (by decide +kernel) hI hI1 F1 G1 hA
  obtain ⟨x1, rfl⟩ := res_i (by decide) R1
  refine m_pop (show decode (mcode 291) 226 = _ by decide +kernel) rfl ?_
  refine m_aload (i := 2) (show decode (mcode 291) 227 = _ by decide +kernel) rfl ?_
  refine law_ld (j := 1) hI1 h6 hL (by decide) rfl rfl (show decode (mcode 291) 228 = _ by decide +kernel) (show decode (mcode 291) 229 = _ by decide +kernel) (show decode (mcode 291) 230 = _ by decide +kernel) (show decode (mcode 291) 231 = _ by decide +kernel) (show decode (mcode 291) 232 = _ by decide +kernel) ?_
  refine law_ld (j := 2) hI1 h6 hL (by decide) rfl rfl (show decode (mcode 291) 233 = _ by decide +kernel) (show decode (mcode 291) 234 = _ by decide +kernel) (show decode (mcode 291) 235 = _ by decide +kernel) (show decode (mcode 291) 236 = _ by decide +kernel) (show decode (mcode 291) 237 = _ by decide +kernel) ?_
  refine law_Y (na := 2) (t := t_k191) (ρ := rl [0, scr L xs (6 * n + 1), scr L xs (6 * n + 2)]) [vi (scr L xs (6 * n + 1)), vi (scr L xs (6 * n + 2))] [] (fun g => KOKx_of (k_k191 g)) (by decide +kernel) hI1 (preY_ok (by decide +kernel) (by omega) hI1) hd (BO_rl ⟨⟨by decide, by decide⟩, scr_b, scr_b, trivial⟩) ⟨⟨rfl, hI1.2.2.2.2.2.2.1, by decide⟩, ar1 (i := 1), ar1 (i := 2), trivial⟩ (show decode (mcode 291) 238 = _ by decide +kernel) (show pool (mcls 291) 17 = _ by decide +kernel) rfl (by decide +kernel) (by decide +kernel) (by decide +kernel) (Nat.le_of_ble_eq_true rfl) (fun r2 Γ2 M2 hI2 a2 b2 R2 F2 G2 _ => ?_)
  have A2 := AL_keep (t := t_k191) (by decide +kernel) hI1 hI2 F2 G2 A1
  obtain ⟨x2, rfl⟩ := res_i (by decide) R2
  refine m_pop (show decode (mcode 291) 241 = _ by decide +kernel) rfl ?_
  exact m_goto (off := 1211) 1453 (show decode (mcode 291) 242 = _ by decide +kernel) (by decide) (kk Γ2 M2 hI2 A2 (by omega) (by omega))
set_option maxRecDepth 100000 in
theorem law_c1 {d L : Nat} {xs : Nat → Int32} {X Y n : Nat} {Γ : Nat → Nat} {M : MM} {Q : Option MV → MM → Prop} (hd : 20 ≤ d) (hI : INV L xs X Y n n Γ M) (hA : AL X Y Γ M) (hn : n ≤ 512) (h6 : 6 * n + 6 ≤ L) (hL : L ≤ 3072) (kk : ∀ Γ2 M2, INV L xs X Y (n + 1) (n + 1) Γ2 M2 → AL X Y Γ2 M2 → M2.1 ≤ M.1 + 19 → M2.2.1 ≤ M.2.1 + 2600 → Wm d 291 1453 (lsn X Y n) [] M2 Q) : Wm d 291 245 (lsn X Y n) [] M Q := by
  refine m_aload (i := 1) (show decode (mcode 291) 245 = _ by decide +kernel) rfl ?_
  refine law_ld (j := 1) hI h6 hL (by decide) rfl rfl (show decode (mcode 291) 246 = _ by decide +kernel) (show decode (mcode 291) 247 = _ by decide +kernel) (show decode (mcode 291) 248 = _ by decide +kernel) (show decode (mcode 291) 249 = _ by decide +kernel) (show decode (mcode 291) 250 = _ by decide +kernel) ?_
  refine law_ld (j := 2) hI h6 hL (by decide) rfl rfl (show decode (mcode 291) 251 = _ by decide +kernel) (show decode (mcode 291) 252 = _ by decide +kernel) (show decode (mcode 291) 253 = _ by decide +kernel) (show decode (mcode 291) 254 = _ by decide +kernel) (show decode (mcode 291) 255 = _ by decide +kernel) ?_
  refine law_X (na := 2) (t := t_k119) (ρ := rl [0, scr L xs (6 * n + 1), scr L xs (6 * n + 2)]) [vi (scr L xs (6 * n + 1)), vi (scr L xs (6 * n + 2))] [] (fun g => KOKx_of (k_k119 g)) (by decide +kernel) hI (preX_ok (by decide +kernel) (by omega) hI) hd (BO_rl ⟨⟨by decide, by decide⟩, scr_b, scr_b, trivial⟩) ⟨⟨rfl, hI.2.2.2.2.2.1, by decide⟩, ar1 (i := 1), ar1 (i := 2), trivial⟩ (show decode (mcode 291) 256 = _ by decide +kernel) (show pool (mcls 291) 18 = _ by decide +kernel) rfl (by decide +kernel) (by decide +kernel) (by decide +kernel) (Nat.le_of_ble_eq_true rfl) (fun r1 Γ1 M1 hI1 a1 b1 R1 F1 G1 _ => ?_)
  have A1 := AL_keep (t := t_k119) (by decide +kernel) hI hI1 F1 G1 hA
  obtain ⟨x1, rfl⟩ := res_i (by decide) R1
  refine m_pop (show decode (mcode 291) 259 = _ by decide +kernel) rfl ?_
  refine m_aload (i := 2) (show decode (mcode 291) 260 = _ by decide +kernel) rfl ?_
  refine law_ld (j := 1) hI1 h6 hL (by decide) rfl rfl (show decode (mcode 291) 261 = _ by decide +kernel) (show decode (mcode 291) 262 = _ by decide +kernel) (show decode (mcode 291) 263 = _ by decide +kernel) (show decode (mcode 291) 264 = _ by decide +kernel) (show decode (mcode 291) 265 = _ by decide +kernel) ?_
  refine law_ld (j := 2) hI1 h6 hL (by decide) rfl rfl (show decode (mcode 291) 266 = _ by decide +kernel) (show decode (mcode 291) 267 = _ by decide +kernel) (show decode (mcode 291) 268 = _ by decide +kernel) (show decode (mcode 291) 269 = _ by decide +kernel) (show decode (mcode 291) 270 = _ by decide +kernel) ?_
  refine law_Y (na := 2) (t := t_k192) (ρ := rl [0, scr L xs (6 * n + 1), scr L xs (6 * n + 2)]) [vi (scr L xs (6 * n + 1)), vi (scr L xs (6 * n + 2))] [] (fun g => KOKx_of (k_k192 g)) (by decide +kernel) hI1 (preY_ok (by decide +kernel) (by omega) hI1) hd (BO_rl ⟨⟨by decide, by decide⟩, scr_b, scr_b, trivial⟩) ⟨⟨rfl, hI1.2.2.2.2.2.2.1, by decide⟩, ar1 (i := 1), ar1 (i := 2), trivial⟩ (show decode (mcode 291) 271 = _ by decide +kernel) (show pool (mcls 291) 22 = _ by decide +kernel) rfl (by decide +kernel) (by decide +kernel) (by decide +kernel) (Nat.le_of_ble_eq_true rfl) (fun r2 Γ2 M2 hI2 a2 b2 R2 F2 G2 _ => ?_)
  have A2 := AL_keep (t := t_k192) (by decide +kernel) hI1 hI2 F2 G2 A1
  obtain ⟨x2, rfl⟩ := res_i (by decide) R2
  refine m_pop (show decode (mcode 291) 274 = _ by decide +kernel) rfl ?_
  exact m_goto (off := 1178) 1453 (show decode (mcode 291) 275 = _ by decide +kernel) (by decide) (kk Γ2 M2 hI2 A2 (by omega) (by omega))
set_option maxRecDepth 100000 in
theorem law_c2 {d L : Nat} {xs : Nat → Int32} {X Y n : Nat} {Γ : Nat → Nat} {M : MM} {Q : Option MV → MM → Prop} (hd : 20 ≤ d) (hI : INV L xs X Y n n Γ M) (hA : AL X Y Γ M) (hn : n ≤ 512) (h6 : 6 * n + 6 ≤ L) (hL : L ≤ 3072) (kk : ∀ Γ2 M2, INV L xs X Y (n + 1) (n + 1) Γ2 M2 → AL X Y Γ2 M2 → M2.1 ≤ M.1 + 19 → M2.2.1 ≤ M.2.1 + 2600 → Wm d 291 1453 (lsn X Y n) [] M2 Q) : Wm d 291 278 (lsn X Y n) [] M Q := by
  refine m_aload (i := 1) (show decode (mcode 291) 278 = _ by decide +kernel) rfl ?_
  refine law_ld (j := 1) hI h6 hL (by decide) rfl rfl (show decode (mcode 291) 279 = _ by decide +kernel) (show decode (mcode 291) 280 = _ by decide +kernel) (show decode (mcode 291) 281 = _ by decide +kernel) (show decode (mcode 291) 282 = _ by decide +kernel) (show decode (mcode 291) 283 = _ by decide +kernel) ?_
  refine law_ld (j := 2) hI h6 hL (by decide) rfl rfl (show decode (mcode 291) 284 = _ by decide +kernel) (show decode (mcode 291) 285 = _ by decide +kernel) (show decode (mcode 291) 286 = _ by decide +kernel) (show decode (mcode 291) 287 = _ by decide +kernel) (show decode (mcode 291) 288 = _ by decide +kernel) ?_
  refine law_z (tz := 296) (te := 297) (o1 := 7) (o2 := 4) (show decode (mcode 291) 289 = _ by decide +kernel) (by decide) (show decode (mcode 291) 292 = _ by decide +kernel) (show decode (mcode 291) 293 = _ by decide +kernel) (by decide) (show decode (mcode 291) 296 = _ by decide +kernel) (by decide) (fun z1 hz1 => ?_)
  refine law_X (na := 2) (t := t_k120) (ρ := rl [0, scr L xs (6 * n + 1), z1]) [vi (scr L xs (6 * n + 1)), vi z1] [] (fun g => KOKx_of (k_k120 g)) (by decide +kernel) hI (preX_ok (by decide +kernel) (by omega) hI) hd (BO_rl ⟨⟨by decide, by decide⟩, scr_b, (by rcases hz1 with h | h <;> (rw [h.1]; decide)), trivial⟩) ⟨⟨rfl, hI.2.2.2.2.2.1, by decide⟩, ar1 (i := 1), ar1 (i := 2), trivial⟩ (show decode (mcode 291) 297 = _ by decide +kernel) (show pool (mcls 291) 23 = _ by decide +kernel) rfl (by decide +kernel) (by decide +kernel) (by decide +kernel) (Nat.le_of_ble_eq_true rfl) (fun r1 Γ1 M1 hI1 a1 b1 R1 F1 G1 _ => ?_)
  have A1 := AL_keep (t := t_k120) (by decide +kernel) hI hI1 F1 G1 hA
  obtain ⟨x1, rfl⟩ := res_i (by decide) R1
  refine m_pop (show decode (mcode 291) 300 = _ by decide +kernel) rfl ?_
  refine m_aload (i := 2) (show decode (mcode 291) 301 = _ by decide +kernel) rfl ?_
  refine law_ld (j := 1) hI1 h6 hL (by decide) rfl rfl (show decode (mcode 291) 302 = _ by decide +kernel) (show decode (mcode 291) 303 = _ by decide +kernel) (show decode (mcode 291) 304 = _ by decide +kernel) (show decode (mcode 291) 305 = _ by decide +kernel) (show decode (mcode 291) 306 = _ by decide +kernel) ?_
  refine law_ld (j := 2) hI1 h6 hL (by decide) rfl rfl (show decode (mcode 291) 307 = _ by decide +kernel) (show decode (mcode 291) 308 = _ by decide +kernel) (show decode (mcode 291) 309 = _ by decide +kernel) (show decode (mcode 291) 310 = _ by decide +kernel) (show decode (mcode 291) 311 = _ by decide +kernel) ?_
  refine law_z (tz := 319) (te := 320) (o1 := 7) (o2 := 4) (show decode (mcode 291) 312 = _ by decide +kernel) (by decide) (show decode (mcode 291) 315 = _ by decide +kernel) (show decode (mcode 291) 316 = _ by decide +kernel) (by decide) (show decode (mcode 291) 319 = _ by decide +kernel) (by decide) (fun z2 hz2 => ?_)
  refine law_Y (na := 2) (t := t_k193) (ρ := rl [0, scr L xs (6 * n + 1), z2]) [vi (scr L xs (6 * n + 1)), vi z2] [] (fun g => KOKx_of (k_k193 g)) (by decide +kernel) hI1 (preY_ok (by decide +kernel) (by omega) hI1) hd (BO_rl ⟨⟨by decide, by decide⟩, scr_b, (by rcases hz2 with h | h <;> (rw [h.1]; decide)), trivial⟩) ⟨⟨rfl, hI1.2.2.2.2.2.2.1, by decide⟩, ar1 (i := 1), ar1 (i := 2), trivial⟩ (show decode (mcode 291) 320 = _ by decide +kernel) (show pool (mcls 291) 27 = _ by decide +kernel) rfl (by decide +kernel) (by decide +kernel) (by decide +kernel) (Nat.le_of_ble_eq_true rfl) (fun r2 Γ2 M2 hI2 a2 b2 R2 F2 G2 _ => ?_)
  have A2 := AL_keep (t := t_k193) (by decide +kernel) hI1 hI2 F2 G2 A1
  obtain ⟨x2, rfl⟩ := res_i (by decide) R2
  refine m_pop (show decode (mcode 291) 323 = _ by decide +kernel) rfl ?_
  exact m_goto (off := 1129) 1453 (show decode (mcode 291) 324 = _ by decide +kernel) (by decide) (kk Γ2 M2 hI2 A2 (by omega) (by omega))
set_option maxRecDepth 100000 in
theorem law_c3 {d L : Nat} {xs : Nat → Int32} {X Y n : Nat} {Γ : Nat → Nat} {M : MM} {Q : Option MV → MM → Prop} (hd : 20 ≤ d) (hI : INV L xs X Y n n Γ M) (hA : AL X Y Γ M) (hn : n ≤ 512) (h6 : 6 * n + 6 ≤ L) (hL : L ≤ 3072) (kk : ∀ Γ2 M2, INV L xs X Y (n + 1) (n + 1) Γ2 M2 → AL X Y Γ2 M2 → M2.1 ≤ M.1 + 19 → M2.2.1 ≤ M.2.1 + 2600 → Wm d 291 1453 (lsn X Y n) [] M2 Q) : Wm d 291 327 (lsn X Y n) [] M Q := by
  refine m_aload (i := 1) (show decode (mcode 291) 327 = _ by decide +kernel) rfl ?_
  refine law_ld (j := 1) hI h6 hL (by decide) rfl rfl (show decode (mcode 291) 328 = _ by decide +kernel) (show decode (mcode 291) 329 = _ by decide +kernel) (show decode (mcode 291) 330 = _ by decide +kernel) (show decode (mcode 291) 331 = _ by decide +kernel) (show decode (mcode 291) 332 = _ by decide +kernel) ?_
  refine law_ld (j := 2) hI h6 hL (by decide) rfl rfl (show decode (mcode 291) 333 = _ by decide +kernel) (show decode (mcode 291) 334 = _ by decide +kernel) (show decode (mcode 291) 335 = _ by decide +kernel) (show decode (mcode 291) 336 = _ by decide +kernel) (show decode (mcode 291) 337 = _ by decide +kernel) ?_
  refine law_X (na := 2) (t := t_k121) (ρ := rl [0, scr L xs (6 * n + 1), scr L xs (6 * n + 2)]) [vi (scr L xs (6 * n + 1)), vi (scr L xs (6 * n + 2))] [] (fun g => KOKx_of (k_k121 g)) (by decide +kernel) hI (preX_ok (by decide +kernel) (by omega) hI) hd (BO_rl ⟨⟨by decide, by decide⟩, scr_b, scr_b, trivial⟩) ⟨⟨rfl, hI.2.2.2.2.2.1, by decide⟩, ar1 (i := 1), ar1 (i := 2), trivial⟩ (show decode (mcode 291) 338 = _ by decide +kernel) (show pool (mcls 291) 28 = _ by decide +kernel) rfl (by decide +kernel) (by decide +kernel) (by decide +kernel) (Nat.le_of_ble_eq_true rfl) (fun r1 Γ1 M1 hI1 a1 b1 R1 F1 G1 _ => ?_)
  have A1 := AL_keep (t := t_k121) (by decide +kernel) hI hI1 F1 G1 hA
  obtain ⟨x1, rfl⟩ := res_i (by decide) R1
  refine m_pop (show decode (mcode 291) 341 = _ by decide +kernel) rfl ?_
  refine m_aload (i := 2) (show decode (mcode 291) 342 = _ by decide +kernel) rfl ?_
  refine law_ld (j := 1) hI1 h6 hL (by decide) rfl rfl (show decode (mcode 291) 343 = _ by decide +kernel) (show decode (mcode 291) 344 = _ by decide +kernel) (show decode (mcode 291) 345 = _ by decide +kernel) (show decode (mcode 291) 346 = _ by decide +kernel) (show decode (mcode 291) 347 = _ by decide +kernel) ?_
  refine law_ld (j := 2) hI1 h6 hL (by decide) rfl rfl (show decode (mcode 291) 348 = _ by decide +kernel) (show decode (mcode 291) 349 = _ by decide +kernel) (show decode (mcode 291) 350 = _ by decide +kernel) (show decode (mcode 291) 351 = _ by decide +kernel) (show decode (mcode 291) 352 = _ by decide +kernel) ?_
  refine law_Y (na := 2) (t := t_k194) (ρ := rl [0, scr L xs (6 * n + 1), scr L xs (6 * n + 2)]) [vi (scr L xs (6 * n + 1)), vi (scr L xs (6 * n + 2))] [] (fun g => KOKx_of (k_k194 g)) (by decide +kernel) hI1 (preY_ok (by decide +kernel) (by omega) hI1) hd (BO_rl ⟨⟨by decide, by decide⟩, scr_b, scr_b, trivial⟩) ⟨⟨rfl, hI1.2.2.2.2.2.2.1, by decide⟩, ar1 (i := 1), ar1 (i := 2), trivial⟩ (show decode (mcode 291) 353 = _ by decide +kernel) (show pool (mcls 291) 31 = _ by decide +kernel) rfl (by decide +kernel) (by decide +kernel) (by decide +kernel) (Nat.le_of_ble_eq_true rfl) (fun r2 Γ2 M2 hI2 a2 b2 R2 F2 G2 _ => ?_)
  have A2 := AL_keep (t := t_k194) (by decide +kernel) hI1 hI2 F2 G2 A1
  obtain ⟨x2, rfl⟩ := res_i (by decide) R2
  refine m_pop (show decode (mcode 291) 356 = _ by decide +kernel) rfl ?_
  exact m_goto (off := 1096) 1453 (show decode (mcode 291) 357 = _ by decide +kernel) (by decide) (kk Γ2 M2 hI2 A2 (by omega) (by omega))
set_option maxRecDepth 100000 in
theorem law_c4 {d L : Nat} {xs : Nat → Int32} {X Y n : Nat} {Γ : Nat → Nat} {M : MM} {Q : Option MV → MM → Prop} (hd : 20 ≤ d) (hI : INV L xs X Y n n Γ M) (hA : AL X Y Γ M) (hn : n ≤ 512) (h6 : 6 * n + 6 ≤ L) (hL : L ≤ 3072) (kk : ∀ Γ2 M2, INV L xs X Y (n + 1) (n + 1) Γ2 M2 → AL X Y Γ2 M2 → M2.1 ≤ M.1 + 19 → M2.2.1 ≤ M.2.1 + 2600 → Wm d 291 1453 (lsn X Y n) [] M2 Q) : Wm d 291 360 (lsn X Y n) [] M Q := by
  refine m_aload (i := 1) (show decode (mcode 291) 360 = _ by decide +kernel) rfl ?_
  refine law_ld (j := 1) hI h6 hL (by decide) rfl rfl (show decode (mcode 291) 361 = _ by decide +kernel) (show decode (mcode 291) 362 = _ by decide +kernel) (show decode (mcode 291) 363 = _ by decide +kernel) (show decode (mcode 291) 364 = _ by decide +kernel) (show decode (mcode 291) 365 = _ by decide +kernel) ?_
  refine law_X (na := 1) (t := t_k122) (ρ := rl [0, scr L xs (6 * n + 1)]) [vi (scr L xs (6 * n + 1))] [] (fun g => KOKx_of (k_k122 g)) (by decide +kernel) hI (preX_ok (by decide +kernel) (by omega) hI) hd (BO_rl ⟨⟨by decide, by decide⟩, scr_b, trivial⟩) ⟨⟨rfl, hI.2.2.2.2.2.1, by decide⟩, ar1 (i := 1), trivial⟩ (show decode (mcode 291) 366 = _ by decide +kernel) (show pool (mcls 291) 32 = _ by decide +kernel) rfl (by decide +kernel) (by decide +kernel) (by decide +kernel) (Nat.le_of_ble_eq_true rfl) (fun r1 Γ1 M1 hI1 a1 b1 R1 F1 G1 _ => ?_)
  have A1 := AL_keep (t := t_k122) (by decide +kernel) hI hI1 F1 G1 hA
  obtain ⟨x1, rfl⟩ := res_i (by decide) R1
  refine m_pop (show decode (mcode 291) 369 = _ by decide +kernel) rfl ?_
  refine m_aload (i := 2) (show decode (mcode 291) 370 = _ by decide +kernel) rfl ?_
  refine law_ld (j := 1) hI1 h6 hL (by decide) rfl rfl (show decode (mcode 291) 371 = _ by decide +kernel) (show decode (mcode 291) 372 = _ by decide +kernel) (show decode (mcode 291) 373 = _ by decide +kernel) (show decode (mcode 291) 374 = _ by decide +kernel) (show decode (mcode 291) 375 = _ by decide +kernel) ?_
  refine law_Y (na := 1) (t := t_k200) (ρ := rl [0, scr L xs (6 * n + 1)]) [vi (scr L xs (6 * n + 1))] [] (fun g => KOKx_of (k_k200 g)) (by decide +kernel) hI1 (preY_ok (by decide +kernel) (by omega) hI1) hd (BO_rl ⟨⟨by decide, by decide⟩, scr_b, trivial⟩) ⟨⟨rfl, hI1.2.2.2.2.2.2.1, by decide⟩, ar1 (i := 1), trivial⟩ (show decode (mcode 291) 376 = _ by decide +kernel) (show pool (mcls 291) 36 = _ by decide +kernel) rfl (by decide +kernel) (by decide +kernel) (by decide +kernel) (Nat.le_of_ble_eq_true rfl) (fun r2 Γ2 M2 hI2 a2 b2 R2 F2 G2 _ => ?_)
  have A2 := AL_keep (t := t_k200) (by decide +kernel) hI1 hI2 F2 G2 A1
  obtain ⟨x2, rfl⟩ := res_i (by decide) R2
  refine m_pop (show decode (mcode 291) 379 = _ by decide +kernel) rfl ?_
  exact m_goto (off := 1073) 1453 (show decode (mcode 291) 380 = _ by decide +kernel) (by decide) (kk Γ2 M2 hI2 A2 (by omega) (by omega))
set_option maxRecDepth 100000 in
theorem law_c5 {d L : Nat} {xs : Nat → Int32} {X Y n : Nat} {Γ : Nat → Nat} {M : MM} {Q : Option MV → MM → Prop} (hd : 20 ≤ d) (hI : INV L xs X Y n n Γ M) (hA : AL X Y Γ M) (hn : n ≤ 512) (h6 : 6 * n + 6 ≤ L) (hL : L ≤ 3072) (kk : ∀ Γ2 M2, INV L xs X Y (n + 1) (n + 1) Γ2 M2 → AL X Y Γ2 M2 → M2.1 ≤ M.1 + 19 → M2.2.1 ≤ M.2.1 + 2600 → Wm d 291 1453 (lsn X Y n) [] M2 Q) : Wm d 291 383 (lsn X Y n) [] M Q := by
  refine m_aload (i := 1) (show decode (mcode 291) 383 = _ by decide +kernel) rfl ?_
  refine law_ld (j := 1) hI h6 hL (by decide) rfl rfl (show decode (mcode 291) 384 = _ by decide +kernel) (show decode (mcode 291) 385 = _ by decide +kernel) (show decode (mcode 291) 386 = _ by decide +kernel) (show decode (mcode 291) 387 = _ by decide +kernel) (show decode (mcode 291) 388 = _ by decide +kernel) ?_
  refine law_ld (j := 2) hI h6 hL (by decide) rfl rfl (show decode (mcode 291) 389 = _ by decide +kernel) (show decode (mcode 291) 390 = _ by decide +kernel) (show decode (mcode 291) 391 = _ by decide +kernel) (show decode (mcode 291) 392 = _ by decide +kernel) (show decode (mcode 291) 393 = _ by decide +kernel) ?_
  refine law_X (na := 2) (t := t_k123) (ρ := rl [0, scr L xs (6 * n + 1), scr L xs (6 * n + 2)]) [vi (scr L xs (6 * n + 1)), vi (scr L xs (6 * n + 2))] [] (fun g => KOKx_of (k_k123 g)) (by decide +kernel) hI (preX_ok (by decide +kernel) (by omega) hI) hd (BO_rl ⟨⟨by decide, by decide⟩, scr_b, scr_b, trivial⟩) ⟨⟨rfl, hI.2.2.2.2.2.1, by decide⟩, ar1 (i := 1), ar1 (i := 2), trivial⟩ (show decode (mcode 291) 394 = _ by decide +kernel) (show pool (mcls 291) 37 = _ by decide +kernel) rfl (by decide +kernel) (by decide +kernel) (by decide +kernel) (Nat.le_of_ble_eq_true rfl) (fun r1 Γ1 M1 hI1 a1 b1 R1 F1 G1 _ => ?_)
  have A1 := AL_keep (t := t_k123) (by decide +kernel) hI hI1 F1 G1 hA
  obtain ⟨x1, rfl⟩ := res_i (by decide) R1
  refine m_pop (show decode (mcode 291) 397 = _ by decide +kernel) rfl ?_
  refine m_aload (i := 2) (show decode (mcode 291) 398 = _ by decide +kernel) rfl ?_
  refine law_ld (j := 1) hI1 h6 hL (by decide) rfl rfl (show decode (mcode 291) 399 = _ by decide +kernel) (show decode (mcode 291) 400 = _ by decide +kernel) (show decode (mcode 291) 401 = _ by decide +kernel) (show decode (mcode 291) 402 = _ by decide +kernel) (show decode (mcode 291) 403 = _ by decide +kernel) ?_
  refine law_ld (j := 2) hI1 h6 hL (by decide) rfl rfl (show decode (mcode 291) 404 = _ by decide +kernel) (show decode (mcode 291) 405 = _ by decide +kernel) (show decode (mcode 291) 406 = _ by decide +kernel) (show decode (mcode 291) 407 = _ by decide +kernel) (show decode (mcode 291) 408 = _ by decide +kernel) ?_
  refine law_Y (na := 2) (t := t_k201) (ρ := rl [0, scr L xs (6 * n + 1), scr L xs (6 * n + 2)]) [vi (scr L xs (6 * n + 1)), vi (scr L xs (6 * n + 2))] [] (fun g => KOKx_of (k_k201 g)) (by decide +kernel) hI1 (preY_ok (by decide +kernel) (by omega) hI1) hd (BO_rl ⟨⟨by decide, by decide⟩, scr_b, scr_b, trivial⟩) ⟨⟨rfl, hI1.2.2.2.2.2.2.1, by decide⟩, ar1 (i := 1), ar1 (i := 2), trivial⟩ (show decode (mcode 291) 409 = _ by decide +kernel) (show pool (mcls 291) 40 = _ by decide +kernel) rfl (by decide +kernel) (by decide +kernel) (by decide +kernel) (Nat.le_of_ble_eq_true rfl) (fun r2 Γ2 M2 hI2 a2 b2 R2 F2 G2 _ => ?_)
  have A2 := AL_keep (t := t_k201) (by decide +kernel) hI1 hI2 F2 G2 A1
  obtain ⟨x2, rfl⟩ := res_i (by decide) R2
  refine m_pop (show decode (mcode 291) 412 = _ by decide +kernel) rfl ?_
  exact m_goto (off := 1040) 1453 (show decode (mcode 291) 413 = _ by decide +kernel) (by decide) (kk Γ2 M2 hI2 A2 (by omega) (by omega))
set_option maxRecDepth 100000 in
theorem law_c6 {d L : Nat} {xs : Nat → Int32} {X Y n : Nat} {Γ : Nat → Nat} {M : MM} {Q : Option MV → MM → Prop} (hd : 20 ≤ d) (hI : INV L xs X Y n n Γ M) (hA : AL X Y Γ M) (hn : n ≤ 512) (h6 : 6 * n + 6 ≤ L) (hL : L ≤ 3072) (kk : ∀ Γ2 M2, INV L xs X Y (n + 1) (n + 1) Γ2 M2 → AL X Y Γ2 M2 → M2.1 ≤ M.1 + 19 → M2.2.1 ≤ M.2.1 + 2600 → Wm d 291 1453 (lsn X Y n) [] M2 Q) : Wm d 291 416 (lsn X Y n) [] M Q := by
  refine m_aload (i := 1) (show decode (mcode 291) 416 = _ by decide +kernel) rfl ?_
  refine law_ld (j := 1) hI h6 hL (by decide) rfl rfl (show decode (mcode 291) 417 = _ by decide +kernel) (show decode (mcode 291) 418 = _ by decide +kernel) (show decode (mcode 291) 419 = _ by decide +kernel) (show decode (mcode 291) 420 = _ by decide +kernel) (show decode (mcode 291) 421 = _ by decide +kernel) ?_
  refine law_X (na := 1) (t := t_k124) (ρ := rl [0, scr L xs (6 * n + 1)]) [vi (scr L xs (6 * n + 1))] [] (fun g => KOKx_of (k_k124 g)) (by decide +kernel) hI (preX_ok (by decide +kernel) (by omega) hI) hd (BO_rl ⟨⟨by decide, by decide⟩, scr_b, trivial⟩) ⟨⟨rfl, hI.2.2.2.2.2.1, by decide⟩, ar1 (i := 1), trivial⟩ (show decode (mcode 291) 422 = _ by decide +kernel) (show pool (mcls 291) 41 = _ by decide +kernel) rfl (by decide +kernel) (by decide +kernel) (by decide +kernel) (Nat.le_of_ble_eq_true rfl) (fun r1 Γ1 M1 hI1 a1 b1 R1 F1 G1 _ => ?_)
  have A1 := AL_keep (t := t_k124) (by decide +kernel) hI hI1 F1 G1 hA
  obtain ⟨x1, rfl⟩ := res_i (by decide) R1
  refine m_pop (show decode (mcode 291) 425 = _ by decide +kernel) rfl ?_
  refine m_aload (i := 2) (show decode (mcode 291) 426 = _ by decide +kernel) rfl ?_
  refine law_ld (j := 1) hI1 h6 hL (by decide) rfl rfl (show decode (mcode 291) 427 = _ by decide +kernel) (show decode (mcode 291) 428 = _ by decide +kernel) (show decode (mcode 291) 429 = _ by decide +kernel) (show decode (mcode 291) 430 = _ by decide +kernel) (show decode (mcode 291) 431 = _ by decide +kernel) ?_
  refine law_Y (na := 1) (t := t_k203) (ρ := rl [0, scr L xs (6 * n + 1)]) [vi (scr L xs (6 * n + 1))] [] (fun g => KOKx_of (k_k203 g)) (by decide +kernel) hI1 (preY_ok (by decide +kernel) (by omega) hI1) hd (BO_rl ⟨⟨by decide, by decide⟩, scr_b, trivial⟩) ⟨⟨rfl, hI1.2.2.2.2.2.2.1, by decide⟩, ar1 (i := 1), trivial⟩ (show decode (mcode 291) 432 = _ by decide +kernel) (show pool (mcls 291) 45 = _ by decide +kernel) rfl (by decide +kernel) (by decide +kernel) (by decide +kernel) (Nat.le_of_ble_eq_true rfl) (fun r2 Γ2 M2 hI2 a2 b2 R2 F2 G2 _ => ?_)
  have A2 := AL_keep (t := t_k203) (by decide +kernel) hI1 hI2 F2 G2 A1
  obtain ⟨x2, rfl⟩ := res_i (by decide) R2
  refine m_pop (show decode (mcode 291) 435 = _ by decide +kernel) rfl ?_
  exact m_goto (off := 1017) 1453 (show decode (mcode 291) 436 = _ by decide +kernel) (by decide) (kk Γ2 M2 hI2 A2 (by omega) (by omega))
set_option maxRecDepth 100000 in
theorem law_c7 {d L : Nat} {xs : Nat → Int32} {X Y n : Nat} {Γ : Nat → Nat} {M : MM} {Q : Option MV → MM → Prop} (hd : 20 ≤ d) (hI : INV L xs X Y n n Γ M) (hA : AL X Y Γ M) (hn : n ≤ 512) (h6 : 6 * n + 6 ≤ L) (hL : L ≤ 3072) (kk : ∀ Γ2 M2, INV L xs X Y (n + 1) (n + 1) Γ2 M2 → AL X Y Γ2 M2 → M2.1 ≤ M.1 + 19 → M2.2.1 ≤ M.2.1 + 2600 → Wm d 291 1453 (lsn X Y n) [] M2 Q) : Wm d 291 439 (lsn X Y n) [] M Q := by
  refine m_aload (i := 1) (show decode (mcode 291) 439 = _ by decide +kernel) rfl ?_
  refine law_ld (j := 1) hI h6 hL (by decide) rfl rfl (show decode (mcode 291) 440 = _ by decide +kernel) (show decode (mcode 291) 441 = _ by decide +kernel) (show decode (mcode 291) 442 = _ by decide +kernel) (show decode (mcode 291) 443 = _ by decide +kernel) (show decode (mcode 291) 444 = _ by decide +kernel) ?_
  refine law_X (na := 1) (t := t_k125) (ρ := rl [0, scr L xs (6 * n + 1)]) [vi (scr L xs (6 * n + 1))] [] (fun g => KOKx_of (k_k125 g)) (by decide +kernel) hI (preX_ok (by decide +kernel) (by omega) hI) hd (BO_rl ⟨⟨by decide, by decide⟩, scr_b, trivial⟩) ⟨⟨rfl, hI.2.2.2.2.2.1, by decide⟩, ar1 (i := 1), trivial⟩ (show decode (mcode 291) 445 = _ by decide +kernel) (show pool (mcls 291) 46 = _ by decide +kernel) rfl (by decide +kernel) (by decide +kernel) (by decide +kernel) (Nat.le_of_ble_eq_true rfl) (fun r1 Γ1 M1 hI1 a1 b1 R1 F1 G1 _ => ?_)
  have A1 := AL_keep (t := t_k125) (by decide +kernel) hI hI1 F1 G1 hA
  obtain ⟨x1, rfl⟩ := res_i (by decide) R1
  refine m_pop (show decode (mcode 291) 448 = _ by decide +kernel) rfl ?_
  refine m_aload (i := 2) (show decode (mcode 291) 449 = _ by decide +kernel) rfl ?_
  refine law_ld (j := 1) hI1 h6 hL (by decide) rfl rfl (show decode (mcode 291) 450 = _ by decide +kernel) (show decode (mcode 291) 451 = _ by decide +kernel) (show decode (mcode 291) 452 = _ by decide +kernel) (show decode (mcode 291) 453 = _ by decide +kernel) (show decode (mcode 291) 454 = _ by decide +kernel) ?_
  refine law_Y (na := 1) (t := t_k204) (ρ := rl [0, scr L xs (6 * n + 1)]) [vi (scr L xs (6 * n + 1))] [] (fun g => KOKx_of (k_k204 g)) (by decide +kernel) hI1 (preY_ok (by decide +kernel) (by omega) hI1) hd (BO_rl ⟨⟨by decide, by decide⟩, scr_b, trivial⟩) ⟨⟨rfl, hI1.2.2.2.2.2.2.1, by decide⟩, ar1 (i := 1), trivial⟩ (show decode (mcode 291) 455 = _ by decide +kernel) (show pool (mcls 291) 49 = _ by decide +kernel) rfl (by decide +kernel) (by decide +kernel) (by decide +kernel) (Nat.le_of_ble_eq_true rfl) (fun r2 Γ2 M2 hI2 a2 b2 R2 F2 G2 _ => ?_)
  have A2 := AL_keep (t := t_k204) (by decide +kernel) hI1 hI2 F2 G2 A1
  obtain ⟨x2, rfl⟩ := res_i (by decide) R2
  refine m_pop (show decode (mcode 291) 458 = _ by decide +kernel) rfl ?_
  exact m_goto (off := 994) 1453 (show decode (mcode 291) 459 = _ by decide +kernel) (by decide) (kk Γ2 M2 hI2 A2 (by omega) (by omega))
set_option maxRecDepth 100000 in
theorem law_c8 {d L : Nat} {xs : Nat → Int32} {X Y n : Nat} {Γ : Nat → Nat} {M : MM} {Q : Option MV → MM → Prop} (hd : 20 ≤ d) (hI : INV L xs X Y n n Γ M) (hA : AL X Y Γ M) (hn : n ≤ 512) (h6 : 6 * n + 6 ≤ L) (hL : L ≤ 3072) (kk : ∀ Γ2 M2, INV L xs X Y (n + 1) (n + 1) Γ2 M2 → AL X Y Γ2 M2 → M2.1 ≤ M.1 + 19 → M2.2.1 ≤ M.2.1 + 2600 → Wm d 291 1453 (lsn X Y n) [] M2 Q) : Wm d 291 462 (lsn X Y n) [] M Q := by
  refine m_aload (i := 1) (show decode (mcode 291) 462 = _ by decide +kernel) rfl ?_
  refine law_ld (j := 1) hI h6 hL (by decide) rfl rfl (show decode (mcode 291) 463 = _ by decide +kernel) (show decode (mcode 291) 464 = _ by decide +kernel) (show decode (mcode 291) 465 = _ by decide +kernel) (show decode (mcode 291) 466 = _ by decide +kernel) (show decode (mcode 291) 467 = _ by decide +kernel) ?_
  refine law_X (na := 1) (t := t_k126) (ρ := rl [0, scr L xs (6 * n + 1)]) [vi (scr L xs (6 * n + 1))] [] (fun g => KOKx_of (k_k126 g)) (by decide +kernel) hI (preX_ok (by decide +kernel) (by omega) hI) hd (BO_rl ⟨⟨by decide, by decide⟩, scr_b, trivial⟩) ⟨⟨rfl, hI.2.2.2.2.2.1, by decide⟩, ar1 (i := 1), trivial⟩ (show decode (mcode 291) 468 = _ by decide +kernel) (show pool (mcls 291) 50 = _ by decide +kernel) rfl (by decide +kernel) (by decide +kernel) (by decide +kernel) (Nat.le_of_ble_eq_true rfl) (fun r1 Γ1 M1 hI1 a1 b1 R1 F1 G1 _ => ?_)
  have A1 := AL_keep (t := t_k126) (by decide +kernel) hI hI1 F1 G1 hA
  obtain ⟨x1, rfl⟩ := res_i (by decide) R1
  refine m_pop (show decode (mcode 291) 471 = _ by decide +kernel) rfl ?_
  refine m_aload (i := 2) (show decode (mcode 291) 472 = _ by decide +kernel) rfl ?_
  refine law_ld (j := 1) hI1 h6 hL (by decide) rfl rfl (show decode (mcode 291) 473 = _ by decide +kernel) (show decode (mcode 291) 474 = _ by decide +kernel) (show decode (mcode 291) 475 = _ by decide +kernel) (show decode (mcode 291) 476 = _ by decide +kernel) (show decode (mcode 291) 477 = _ by decide +kernel) ?_
  refine law_Y (na := 1) (t := t_k220) (ρ := rl [0, scr L xs (6 * n + 1)]) [vi (scr L xs (6 * n + 1))] [] (fun g => KOKx_of (k_k220 g)) (by decide +kernel) hI1 (preY_ok (by decide +kernel) (by omega) hI1) hd (BO_rl ⟨⟨by decide, by decide⟩, scr_b, trivial⟩) ⟨⟨rfl, hI1.2.2.2.2.2.2.1, by decide⟩, ar1 (i := 1), trivial⟩ (show decode (mcode 291) 478 = _ by decide +kernel) (show pool (mcls 291) 53 = _ by decide +kernel) rfl (by decide +kernel) (by decide +kernel) (by decide +kernel) (Nat.le_of_ble_eq_true rfl) (fun r2 Γ2 M2 hI2 a2 b2 R2 F2 G2 _ => ?_)
  have A2 := AL_keep (t := t_k220) (by decide +kernel) hI1 hI2 F2 G2 A1
  obtain ⟨x2, rfl⟩ := res_i (by decide) R2
  refine m_pop (show decode (mcode 291) 481 = _ by decide +kernel) rfl ?_
  exact m_goto (off := 971) 1453 (show decode (mcode 291) 482 = _ by decide +kernel) (by decide) (kk Γ2 M2 hI2 A2 (by omega) (by omega))
set_option maxRecDepth 100000 in
theorem law_c9 {d L : Nat} {xs : Nat → Int32} {X Y n : Nat} {Γ : Nat → Nat} {M : MM} {Q : Option MV → MM → Prop} (hd : 20 ≤ d) (hI : INV L xs X Y n n Γ M) (hA : AL X Y Γ M) (hn : n ≤ 512) (h6 : 6 * n + 6 ≤ L) (hL : L ≤ 3072) (kk : ∀ Γ2 M2, INV L xs X Y (n + 1) (n + 1) Γ2 M2 → AL X Y Γ2 M2 → M2.1 ≤ M.1 + 19 → M2.2.1 ≤ M.2.1 + 2600 → Wm d 291 1453 (lsn X Y n) [] M2 Q) : Wm d 291 485 (lsn X Y n) [] M Q := by
  refine m_aload (i := 1) (show decode (mcode 291) 485 = _ by decide +kernel) rfl ?_
  refine law_ld (j := 1) hI h6 hL (by decide) rfl rfl (show decode (mcode 291) 486 = _ by decide +kernel) (show decode (mcode 291) 487 = _ by decide +kernel) (show decode (mcode 291) 488 = _ by decide +kernel) (show decode (mcode 291) 489 = _ by decide +kernel) (show decode (mcode 291) 490 = _ by decide +kernel) ?_
  refine law_ld (j := 2) hI h6 hL (by decide) rfl rfl (show decode (mcode 291) 491 = _ by decide +kernel) (show decode (mcode 291) 492 = _ by decide +kernel) (show decode (mcode 291) 493 = _ by decide +kernel) (show decode (mcode 291) 494 = _ by decide +kernel) (show decode (mcode 291) 495 = _ by decide +kernel) ?_
  refine law_z (tz := 503) (te := 504) (o1 := 7) (o2 := 4) (show decode (mcode 291) 496 = _ by decide +kernel) (by decide) (show decode (mcode 291) 499 = _ by decide +kernel) (show decode (mcode 291) 500 = _ by decide +kernel) (by decide) (show decode (mcode 291) 503 = _ by decide +kernel) (by decide) (fun z1 hz1 => ?_)
  refine law_X (na := 2) (t := t_k127) (ρ := rl [0, scr L xs (6 * n + 1), z1]) [vi (scr L xs (6 * n + 1)), vi z1] [] (fun g => KOKx_of (k_k127 g)) (by decide +kernel) hI (preX_ok (by decide +kernel) (by omega) hI) hd (BO_rl ⟨⟨by decide, by decide⟩, scr_b, (by rcases hz1 with h | h <;> (rw [h.1]; decide)), trivial⟩) ⟨⟨rfl, hI.2.2.2.2.2.1, by decide⟩, ar1 (i := 1), ar1 (i := 2), trivial⟩ (show decode (mcode 291) 504 = _ by decide +kernel) (show pool (mcls 291) 54 = _ by decide +kernel) rfl (by decide +kernel) (by decide +kernel) (by decide +kernel) (Nat.le_of_ble_eq_true rfl) (fun r1 Γ1 M1 hI1 a1 b1 R1 F1 G1 _ => ?_)
  have A1 := AL_keep (t := t_k127) (by decide +kernel) hI hI1 F1 G1 hA
  obtain ⟨x1, rfl⟩ := res_i (by decide) R1
  refine m_pop (show decode (mcode 291) 507 = _ by decide +kernel) rfl ?_
  refine m_aload (i := 2) (show decode (mcode 291) 508 = _ by decide +kernel) rfl ?_
  refine law_ld (j := 1) hI1 h6 hL (by decide) rfl rfl (show decode (mcode 291) 509 = _ by decide +kernel) (show decode (mcode 291) 510 = _ by decide +kernel) (show decode (mcode 291) 511 = _ by decide +kernel) (show decode (mcode 291) 512 = _ by decide +kernel) (show decode (mcode 291) 513 = _ by decide +kernel) ?_
  refine law_ld (j := 2) hI1 h6 hL (by decide) rfl rfl (show decode (mcode 291) 514 = _ by decide +kernel) (show decode (mcode 291) 515 = _ by decide +kernel) (show decode (mcode 291) 516 = _ by decide +kernel) (show decode (mcode 291) 517 = _ by decide +kernel) (show decode (mcode 291) 518 = _ by decide +kernel) ?_
  refine law_z (tz := 526) (te := 527) (o1 := 7) (o2 := 4) (show decode (mcode 291) 519 = _ by decide +kernel) (by decide) (show decode (mcode 291) 522 = _ by decide +kernel) (show decode (mcode 291) 523 = _ by decide +kernel) (by decide) (show decode (mcode 291) 526 = _ by decide +kernel) (by decide) (fun z2 hz2 => ?_)
  refine law_Y (na := 2) (t := t_k221) (ρ := rl [0, scr L xs (6 * n + 1), z2]) [vi (scr L xs (6 * n + 1)), vi z2] [] (fun g => KOKx_of (k_k221 g)) (by decide +kernel) hI1 (preY_ok (by decide +kernel) (by omega) hI1) hd (BO_rl ⟨⟨by decide, by decide⟩, scr_b, (by rcases hz2 with h | h <;> (rw [h.1]; decide)), trivial⟩) ⟨⟨rfl, hI1.2.2.2.2.2.2.1, by decide⟩, ar1 (i := 1), ar1 (i := 2), trivial⟩ (show decode (mcode 291) 527 = _ by decide +kernel) (show pool (mcls 291) 57 = _ by decide +kernel) rfl (by decide +kernel) (by decide +kernel) (by decide +kernel) (Nat.le_of_ble_eq_true rfl) (fun r2 Γ2 M2 hI2 a2 b2 R2 F2 G2 _ => ?_)
  have A2 := AL_keep (t := t_k221) (by decide +kernel) hI1 hI2 F2 G2 A1
  obtain ⟨x2, rfl⟩ := res_i (by decide) R2
  refine m_pop (show decode (mcode 291) 530 = _ by decide +kernel) rfl ?_
  exact m_goto (off := 922) 1453 (show decode (mcode 291) 531 = _ by decide +kernel) (by decide) (kk Γ2 M2 hI2 A2 (by omega) (by omega))
set_option maxRecDepth 100000 in
theorem law_c10 {d L : Nat} {xs : Nat → Int32} {X Y n : Nat} {Γ : Nat → Nat} {M : MM} {Q : Option MV → MM → Prop} (hd : 20 ≤ d) (hI : INV L xs X Y n n Γ M) (hA : AL X Y Γ M) (hn : n ≤ 512) (h6 : 6 * n + 6 ≤ L) (hL : L ≤ 3072) (kk : ∀ Γ2 M2, INV L xs X Y (n + 1) (n + 1) Γ2 M2 → AL X Y Γ2 M2 → M2.1 ≤ M.1 + 19 → M2.2.1 ≤ M.2.1 + 2600 → Wm d 291 1453 (lsn X Y n) [] M2 Q) : Wm d 291 534 (lsn X Y n) [] M Q := by
  refine m_aload (i := 1) (show decode (mcode 291) 534 = _ by decide +kernel) rfl ?_
  refine law_X (na := 0) (t := t_k128) (ρ := rl [0]) [] [] (fun g => KOKx_of (k_k128 g)) (by decide +kernel) hI (preX_ok (by decide +kernel) (by omega) hI) hd (BO_rl ⟨⟨by decide, by decide⟩, trivial⟩) ⟨⟨rfl, hI.2.2.2.2.2.1, by decide⟩, trivial⟩ (show decode (mcode 291) 535 = _ by decide +kernel) (show pool (mcls 291) 58 = _ by decide +kernel) rfl (by decide +kernel) (by decide +kernel) (by decide +kernel) (Nat.le_of_ble_eq_true rfl) (fun r1 Γ1 M1 hI1 a1 b1 R1 F1 G1 _ => ?_)
  have A1 := AL_keep (t := t_k128) (by decide +kernel) hI hI1 F1 G1 hA
  obtain ⟨x1, rfl⟩ := res_i (by decide) R1
  refine m_pop (show decode (mcode 291) 538 = _ by decide +kernel) rfl ?_
  refine m_aload (i := 2) (show decode (mcode 291) 539 = _ by decide +kernel) rfl ?_
  refine law_Y (na := 0) (t := t_k226) (ρ := rl [0]) [] [] (fun g => KOKx_of (k_k226 g)) (by decide +kernel) hI1 (preY_ok (by decide +kernel) (by omega) hI1) hd (BO_rl ⟨⟨by decide, by decide⟩, trivial⟩) ⟨⟨rfl, hI1.2.2.2.2.2.2.1, by decide⟩, trivial⟩ (show decode (mcode 291) 540 = _ by decide +kernel) (show pool (mcls 291) 62 = _ by decide +kernel) rfl (by decide +kernel) (by decide +kernel) (by decide +kernel) (Nat.le_of_ble_eq_true rfl) (fun r2 Γ2 M2 hI2 a2 b2 R2 F2 G2 _ => ?_)
  have A2 := AL_keep (t := t_k226) (by decide +kernel) hI1 hI2 F2 G2 A1
  obtain ⟨x2, rfl⟩ := res_i (by decide) R2
  refine m_pop (show decode (mcode 291) 543 = _ by decide +kernel) rfl ?_
  exact m_goto (off := 909) 1453 (show decode (mcode 291) 544 = _ by decide +kernel) (by decide) (kk Γ2 M2 hI2 A2 (by omega) (by omega))
set_option maxRecDepth 100000 in
theorem law_c11 {d L : Nat} {xs : Nat → Int32} {X Y n : Nat} {Γ : Nat → Nat} {M : MM} {Q : Option MV → MM → Prop} (hd : 20 ≤ d) (hI : INV L xs X Y n n Γ M) (hA : AL X Y Γ M) (hn : n ≤ 512) (h6 : 6 * n + 6 ≤ L) (hL : L ≤ 3072) (kk : ∀ Γ2 M2, INV L xs X Y (n + 1) (n + 1) Γ2 M2 → AL X Y Γ2 M2 → M2.1 ≤ M.1 + 19 → M2.2.1 ≤ M.2.1 + 2600 → Wm d 291 1453 (lsn X Y n) [] M2 Q) : Wm d 291 547 (lsn X Y n) [] M Q := by
  refine m_aload (i := 1) (show decode (mcode 291) 547 = _ by decide +kernel) rfl ?_
  refine law_ld (j := 1) hI h6 hL (by decide) rfl rfl (show decode (mcode 291) 548 = _ by decide +kernel) (show decode (mcode 291) 549 = _ by decide +kernel) (show decode (mcode 291) 550 = _ by decide +kernel) (show decode (mcode 291) 551 = _ by decide +kernel) (show decode (mcode 291) 552 = _ by decide +kernel) ?_
  refine law_X (na := 1) (t := t_k129) (ρ := rl [0, scr L xs (6 * n + 1)]) [vi (scr L xs (6 * n + 1))] [] (fun g => KOKx_of (k_k129 g)) (by decide +kernel) hI (preX_ok (by decide +kernel) (by omega) hI) hd (BO_rl ⟨⟨by decide, by decide⟩, scr_b, trivial⟩) ⟨⟨rfl, hI.2.2.2.2.2.1, by decide⟩, ar1 (i := 1), trivial⟩ (show decode (mcode 291) 553 = _ by decide +kernel) (show pool (mcls 291) 63 = _ by decide +kernel) rfl (by decide +kernel) (by decide +kernel) (by decide +kernel) (Nat.le_of_ble_eq_true rfl) (fun r1 Γ1 M1 hI1 a1 b1 R1 F1 G1 _ => ?_)
  have A1 := AL_keep (t := t_k129) (by decide +kernel) hI hI1 F1 G1 hA
  obtain ⟨x1, rfl⟩ := res_i (by decide) R1
  refine m_pop (show decode (mcode 291) 556 = _ by decide +kernel) rfl ?_
  refine m_aload (i := 2) (show decode (mcode 291) 557 = _ by decide +kernel) rfl ?_
  refine law_ld (j := 1) hI1 h6 hL (by decide) rfl rfl (show decode (mcode 291) 558 = _ by decide +kernel) (show decode (mcode 291) 559 = _ by decide +kernel) (show decode (mcode 291) 560 = _ by decide +kernel) (show decode (mcode 291) 561 = _ by decide +kernel) (show decode (mcode 291) 562 = _ by decide +kernel) ?_
  refine law_Y (na := 1) (t := t_k227) (ρ := rl [0, scr L xs (6 * n + 1)]) [vi (scr L xs (6 * n + 1))] [] (fun g => KOKx_of (k_k227 g)) (by decide +kernel) hI1 (preY_ok (by decide +kernel) (by omega) hI1) hd (BO_rl ⟨⟨by decide, by decide⟩, scr_b, trivial⟩) ⟨⟨rfl, hI1.2.2.2.2.2.2.1, by decide⟩, ar1 (i := 1), trivial⟩ (show decode (mcode 291) 563 = _ by decide +kernel) (show pool (mcls 291) 66 = _ by decide +kernel) rfl (by decide +kernel) (by decide +kernel) (by decide +kernel) (Nat.le_of_ble_eq_true rfl) (fun r2 Γ2 M2 hI2 a2 b2 R2 F2 G2 _ => ?_)
  have A2 := AL_keep (t := t_k227) (by decide +kernel) hI1 hI2 F2 G2 A1
  obtain ⟨x2, rfl⟩ := res_i (by decide) R2
  refine m_pop (show decode (mcode 291) 566 = _ by decide +kernel) rfl ?_
  exact m_goto (off := 886) 1453 (show decode (mcode 291) 567 = _ by decide +kernel) (by decide) (kk Γ2 M2 hI2 A2 (by omega) (by omega))
set_option maxRecDepth 100000 in
theorem law_c12 {d L : Nat} {xs : Nat → Int32} {X Y n : Nat} {Γ : Nat → Nat} {M : MM} {Q : Option MV → MM → Prop} (hd : 20 ≤ d) (hI : INV L xs X Y n n Γ M) (hA : AL X Y Γ M) (hn : n ≤ 512) (h6 : 6 * n + 6 ≤ L) (hL : L ≤ 3072) (kk : ∀ Γ2 M2, INV L xs X Y (n + 1) (n + 1) Γ2 M2 → AL X Y Γ2 M2 → M2.1 ≤ M.1 + 19 → M2.2.1 ≤ M.2.1 + 2600 → Wm d 291 1453 (lsn X Y n) [] M2 Q) : Wm d 291 570 (lsn X Y n) [] M Q := by
  refine m_aload (i := 1) (show decode (mcode 291) 570 = _ by decide +kernel) rfl ?_
  refine law_ld (j := 1) hI h6 hL (by decide) rfl rfl (show decode (mcode 291) 571 = _ by decide +kernel) (show decode (mcode 291) 572 = _ by decide +kernel) (show decode (mcode 291) 573 = _ by decide +kernel) (show decode (mcode 291) 574 = _ by decide +kernel) (show decode (mcode 291) 575 = _ by decide +kernel) ?_
  refine law_ld (j := 2) hI h6 hL (by decide) rfl rfl (show decode (mcode 291) 576 = _ by decide +kernel) (show decode (mcode 291) 577 = _ by decide +kernel) (show decode (mcode 291) 578 = _ by decide +kernel) (show decode (mcode 291) 579 = _ by decide +kernel) (show decode (mcode 291) 580 = _ by decide +kernel) ?_
  refine law_X (na := 2) (t := t_k130) (ρ := rl [0, scr L xs (6 * n + 1), scr L xs (6 * n + 2)]) [vi (scr L xs (6 * n + 1)), vi (scr L xs (6 * n + 2))] [] (fun g => KOKx_of (k_k130 g)) (by decide +kernel) hI (preX_ok (by decide +kernel) (by omega) hI) hd (BO_rl ⟨⟨by decide, by decide⟩, scr_b, scr_b, trivial⟩) ⟨⟨rfl, hI.2.2.2.2.2.1, by decide⟩, ar1 (i := 1), ar1 (i := 2), trivial⟩ (show decode (mcode 291) 581 = _ by decide +kernel) (show pool (mcls 291) 67 = _ by decide +kernel) rfl (by decide +kernel) (by decide +kernel) (by decide +kernel) (Nat.le_of_ble_eq_true rfl) (fun r1 Γ1 M1 hI1 a1 b1 R1 F1 G1 _ => ?_)
  have A1 := AL_keep (t := t_k130) (by decide +kernel) hI hI1 F1 G1 hA
  obtain ⟨x1, rfl⟩ := res_i (by decide) R1
  refine m_pop (show decode (mcode 291) 584 = _ by decide +kernel) rfl ?_
  refine m_aload (i := 2) (show decode (mcode 291) 585 = _ by decide +kernel) rfl ?_
  refine law_ld (j := 1) hI1 h6 hL (by decide) rfl rfl (show decode (mcode 291) 586 = _ by decide +kernel) (show decode (mcode 291) 587 = _ by decide +kernel) (show decode (mcode 291) 588 = _ by decide +kernel) (show decode (mcode 291) 589 = _ by decide +kernel) (show decode (mcode 291) 590 = _ by decide +kernel) ?_
  refine law_ld (j := 2) hI1 h6 hL (by decide) rfl rfl (show decode (mcode 291) 591 = _ by decide +kernel) (show decode (mcode 291) 592 = _ by decide +kernel) (show decode (mcode 291) 593 = _ by decide +kernel) (show decode (mcode 291) 594 = _ by decide +kernel) (show decode (mcode 291) 595 = _ by decide +kernel) ?_
  refine law_Y (na := 2) (t := t_k237) (ρ := rl [0, scr L xs (6 * n + 1), scr L xs (6 * n + 2)]) [vi (scr L xs (6 * n + 1)), vi (scr L xs (6 * n + 2))] [] (fun g => KOKx_of (k_k237 g)) (by decide +kernel) hI1 (preY_ok (by decide +kernel) (by omega) hI1) hd (BO_rl ⟨⟨by decide, by decide⟩, scr_b, scr_b, trivial⟩) ⟨⟨rfl, hI1.2.2.2.2.2.2.1, by decide⟩, ar1 (i := 1), ar1 (i := 2), trivial⟩ (show decode (mcode 291) 596 = _ by decide +kernel) (show pool (mcls 291) 70 = _ by decide +kernel) rfl (by decide +kernel) (by decide +kernel) (by decide +kernel) (Nat.le_of_ble_eq_true rfl) (fun r2 Γ2 M2 hI2 a2 b2 R2 F2 G2 _ => ?_)
  have A2 := AL_keep (t := t_k237) (by decide +kernel) hI1 hI2 F2 G2 A1
  obtain ⟨x2, rfl⟩ := res_i (by decide) R2
  refine m_pop (show decode (mcode 291) 599 = _ by decide +kernel) rfl ?_
  exact m_goto (off := 853) 1453 (show decode (mcode 291) 600 = _ by decide +kernel) (by decide) (kk Γ2 M2 hI2 A2 (by omega) (by omega))
set_option maxRecDepth 100000 in
theorem law_c13 {d L : Nat} {xs : Nat → Int32} {X Y n : Nat} {Γ : Nat → Nat} {M : MM} {Q : Option MV → MM → Prop} (hd : 20 ≤ d) (hI : INV L xs X Y n n Γ M) (hA : AL X Y Γ M) (hn : n ≤ 512) (h6 : 6 * n + 6 ≤ L) (hL : L ≤ 3072) (kk : ∀ Γ2 M2, INV L xs X Y (n + 1) (n + 1) Γ2 M2 → AL X Y Γ2 M2 → M2.1 ≤ M.1 + 19 → M2.2.1 ≤ M.2.1 + 2600 → Wm d 291 1453 (lsn X Y n) [] M2 Q) : Wm d 291 603 (lsn X Y n) [] M Q := by
  refine m_aload (i := 1) (show decode (mcode 291) 603 = _ by decide +kernel) rfl ?_
  refine law_X (na := 0) (t := t_k131) (ρ := rl [0]) [] [] (fun g => KOKx_of (k_k131 g)) (by decide +kernel) hI (preX_ok (by decide +kernel) (by omega) hI) hd (BO_rl ⟨⟨by decide, by decide⟩, trivial⟩) ⟨⟨rfl, hI.2.2.2.2.2.1, by decide⟩, trivial⟩ (show decode (mcode 291) 604 = _ by decide +kernel) (show pool (mcls 291) 71 = _ by decide +kernel) rfl (by decide +kernel) (by decide +kernel) (by decide +kernel) (Nat.le_of_ble_eq_true rfl) (fun r1 Γ1 M1 hI1 a1 b1 R1 F1 G1 _ => ?_)
  have A1 := AL_keep (t := t_k131) (by decide +kernel) hI hI1 F1 G1 hA
  obtain ⟨x1, rfl⟩ := res_i (by decide) R1
  refine m_pop (show decode (mcode 291) 607 = _ by decide +kernel) rfl ?_
  refine m_aload (i := 2) (show decode (mcode 291) 608 = _ by decide +kernel) rfl ?_
  refine law_Y (na := 0) (t := t_k245) (ρ := rl [0]) [] [] (fun g => KOKx_of (k_k245 g)) (by decide +kernel) hI1 (preY_ok (by decide +kernel) (by omega) hI1) hd (BO_rl ⟨⟨by decide, by decide⟩, trivial⟩) ⟨⟨rfl, hI1.2.2.2.2.2.2.1, by decide⟩, trivial⟩ (show decode (mcode 291) 609 = _ by decide +kernel) (show pool (mcls 291) 74 = _ by decide +kernel) rfl (by decide +kernel) (by decide +kernel) (by decide +kernel) (Nat.le_of_ble_eq_true rfl) (fun r2 Γ2 M2 hI2 a2 b2 R2 F2 G2 _ => ?_)
  have A2 := AL_keep (t := t_k245) (by decide +kernel) hI1 hI2 F2 G2 A1
  obtain ⟨x2, rfl⟩ := res_i (by decide) R2
  refine m_pop (show decode (mcode 291) 612 = _ by decide +kernel) rfl ?_
  exact m_goto (off := 840) 1453 (show decode (mcode 291) 613 = _ by decide +kernel) (by decide) (kk Γ2 M2 hI2 A2 (by omega) (by omega))
set_option maxRecDepth 100000 in
theorem law_c14 {d L : Nat} {xs : Nat → Int32} {X Y n : Nat} {Γ : Nat → Nat} {M : MM} {Q : Option MV → MM → Prop} (hd : 20 ≤ d) (hI : INV L xs X Y n n Γ M) (hA : AL X Y Γ M) (hn : n ≤ 512) (h6 : 6 * n + 6 ≤ L) (hL : L ≤ 3072) (kk : ∀ Γ2 M2, INV L xs X Y (n + 1) (n + 1) Γ2 M2 → AL X Y Γ2 M2 → M2.1 ≤ M.1 + 19 → M2.2.1 ≤ M.2.1 + 2600 → Wm d 291 1453 (lsn X Y n) [] M2 Q) : Wm d 291 616 (lsn X Y n) [] M Q := by
  refine m_aload (i := 1) (show decode (mcode 291) 616 = _ by decide +kernel) rfl ?_
  refine law_ld (j := 1) hI h6 hL (by decide) rfl rfl (show decode (mcode 291) 617 = _ by decide +kernel) (show decode (mcode 291) 618 = _ by decide +kernel) (show decode (mcode 291) 619 = _ by decide +kernel) (show decode (mcode 291) 620 = _ by decide +kernel) (show decode (mcode 291) 621 = _ by decide +kernel) ?_
  refine law_ld (j := 2) hI h6 hL (by decide) rfl rfl (show decode (mcode 291) 622 = _ by decide +kernel) (show decode (mcode 291) 623 = _ by decide +kernel) (show decode (mcode 291) 624 = _ by decide +kernel) (show decode (mcode 291) 625 = _ by decide +kernel) (show decode (mcode 291) 626 = _ by decide +kernel) ?_
  refine law_ld (j := 3) hI h6 hL (by decide) rfl rfl (show decode (mcode 291) 627 = _ by decide +kernel) (show decode (mcode 291) 628 = _ by decide +kernel) (show decode (mcode 291) 629 = _ by decide +kernel) (show decode (mcode 291) 630 = _ by decide +kernel) (show decode (mcode 291) 631 = _ by decide +kernel) ?_
  refine law_ld (j := 4) hI h6 hL (by decide) rfl rfl (show decode (mcode 291) 632 = _ by decide +kernel) (show decode (mcode 291) 633 = _ by decide +kernel) (show decode (mcode 291) 634 = _ by decide +kernel) (show decode (mcode 291) 635 = _ by decide +kernel) (show decode (mcode 291) 636 = _ by decide +kernel) ?_
  refine law_ld (j := 5) hI h6 hL (by decide) rfl rfl (show decode (mcode 291) 637 = _ by decide +kernel) (show decode (mcode 291) 638 = _ by decide +kernel) (show decode (mcode 291) 639 = _ by decide +kernel) (show decode (mcode 291) 640 = _ by decide +kernel) (show decode (mcode 291) 641 = _ by decide +kernel) ?_
  obtain ⟨⟨z0, l, A1, A2⟩, A3⟩ := hA
  have lb := le474 hI.1 A1
  obtain ⟨z, hz1, hz2⟩ := feed_z n z0 l [scr L xs (6 * n + 1), scr L xs (6 * n + 2), scr L xs (6 * n + 3), scr L xs (6 * n + 4), scr L xs (6 * n + 5)] lb.1
  have B1 : PSt (gZ n z) 474 [vr X, vi l] Γ M := z474 hz1 A1
  have B2 : PSt (gZ n z) 479 [vr Y, vi l] Γ M := z479 hz1 A2
  have hw : ∀ q : Nat, q < 5 → ∀ r : Nat, r < 4 → tqB (gZ n z) ((l + 4 * (q : Int)).toNat + r) = aNd (sHr ([scr L xs (6 * n + 1), scr L xs (6 * n + 2), scr L xs (6 * n + 3), scr L xs (6 * n + 4), scr L xs (6 * n + 5)].getD q 0) (24 - 8 * (r : Int))) 255 := fun q hq r hr => by
    rw [show (l + 4 * (q : Int)).toNat + r = l.toNat + 4 * q + r by omega]
    exact hz2 q r hq hr
  have w0 := f472 (Γ := Γ) (M := M) (v := scr L xs (6 * n + 1)) (n := l) (c := 0) (by omega) (hw 0 (by decide))
  have w1 := f472 (Γ := Γ) (M := M) (v := scr L xs (6 * n + 2)) (n := l) (c := 4) (by omega) (hw 1 (by decide))
  have w2 := f472 (Γ := Γ) (M := M) (v := scr L xs (6 * n + 3)) (n := l) (c := 8) (by omega) (hw 2 (by decide))
  have w3 := f472 (Γ := Γ) (M := M) (v := scr L xs (6 * n + 4)) (n := l) (c := 12) (by omega) (hw 3 (by decide))
  have w4 := f472 (Γ := Γ) (M := M) (v := scr L xs (6 * n + 5)) (n := l) (c := 16) (by omega) (hw 4 (by decide))
  refine law_X (z := z) (na := 5) (t := t_k132) (ρ := rl [0, scr L xs (6 * n + 1), scr L xs (6 * n + 2), scr L xs (6 * n + 3), scr L xs (6 * n + 4), scr L xs (6 * n + 5), l]) [vi (scr L xs (6 * n + 1)), vi (scr L xs (6 * n + 2)), vi (scr L xs (6 * n + 3)), vi (scr L xs (6 * n + 4)), vi (scr L xs (6 * n + 5))] [vi l] (fun g => KOKx_of (k_k132 g)) (show (okX t_k132 && (Nat.beq 1 (gN t_k132) && Nat.ble (kD t_k132) 20)) = true by decide +kernel) hI (preXz [(474, [(2, 0, 54, 0), (1, 6, 0, 0)]), (472, [(1, 1, 0, 0), (1, 6, 0, 0)]), (472, [(1, 2, 0, 0), (1, 6, 0, 4)]), (472, [(1, 3, 0, 0), (1, 6, 0, 8)]), (472, [(1, 4, 0, 0), (1, 6, 0, 12)]), (472, [(1, 5, 0, 0), (1, 6, 0, 16)])] (by decide +kernel) (by omega) hI (fun f hf => by
              rcases List.mem_cons.mp hf with rfl | hf
              · exact (by show PSt _ 474 [vr X, vi (l + 0)] Γ M; rw [Int.add_zero]; exact B1)
              rcases List.mem_cons.mp hf with rfl | hf
              · exact w0
              rcases List.mem_cons.mp hf with rfl | hf
              · exact w1
              rcases List.mem_cons.mp hf with rfl | hf
              · exact w2
              rcases List.mem_cons.mp hf with rfl | hf
              · exact w3
              cases List.mem_singleton.mp hf
              exact w4)) hd (BO_rl ⟨⟨by decide, by decide⟩, scr_b, scr_b, scr_b, scr_b, scr_b, lb, trivial⟩) ⟨⟨rfl, hI.2.2.2.2.2.1, by decide⟩, ar1 (i := 1), ar1 (i := 2), ar1 (i := 3), ar1 (i := 4), ar1 (i := 5), ar1g (i := 6), trivial⟩ (show decode (mcode 291) 642 = _ by decide +kernel) (show pool (mcls 291) 75 = _ by decide +kernel) rfl (by decide +kernel) (by decide +kernel) (by decide +kernel) (Nat.le_of_ble_eq_true rfl) (fun r1 Γ1 M1 hI1 a1 b1 R1 F1 G1 _ => ?_)
  obtain ⟨rfl, C1⟩ := fed_r (fx := 478) (τ := 54) (by decide) rfl (by decide) (by decide) R1
  have B3 := kY479 (t := t_k132) (by decide +kernel) hI.1 hI1.1 F1 G1 B2
  have w0 := f472 (Γ := Γ1) (M := M1) (v := scr L xs (6 * n + 1)) (n := l) (c := 0) (by omega) (hw 0 (by decide))
  have w1 := f472 (Γ := Γ1) (M := M1) (v := scr L xs (6 * n + 2)) (n := l) (c := 4) (by omega) (hw 1 (by decide))
  have w2 := f472 (Γ := Γ1) (M := M1) (v := scr L xs (6 * n + 3)) (n := l) (c := 8) (by omega) (hw 2 (by decide))
  have w3 := f472 (Γ := Γ1) (M := M1) (v := scr L xs (6 * n + 4)) (n := l) (c := 12) (by omega) (hw 3 (by decide))
  have w4 := f472 (Γ := Γ1) (M := M1) (v := scr L xs (6 * n + 5)) (n := l) (c := 16) (by omega) (hw 4 (by decide))
  refine m_pop (show decode (mcode 291) 645 = _ by decide +kernel) rfl ?_
  refine m_aload (i := 2) (show decode (mcode 291) 646 = _ by decide +kernel) rfl ?_
  refine law_ld (j := 1) hI1 h6 hL (by decide) rfl rfl (show decode (mcode 291) 647 = _ by decide +kernel) (show decode (mcode 291) 648 = _ by decide +kernel) (show decode (mcode 291) 649 = _ by decide +kernel) (show decode (mcode 291) 650 = _ by decide +kernel) (show decode (mcode 291) 651 = _ by decide +kernel) ?_
  refine law_ld (j := 2) hI1 h6 hL (by decide) rfl rfl (show decode (mcode 291) 652 = _ by decide +kernel) (show decode (mcode 291) 653 = _ by decide +kernel) (show decode (mcode 291) 654 = _ by decide +kernel) (show decode (mcode 291) 655 = _ by decide +kernel) (show decode (mcode 291) 656 = _ by decide +kernel) ?_
  refine law_ld (j := 3) hI1 h6 hL (by decide) rfl rfl (show decode (mcode 291) 657 = _ by decide +kernel) (show decode (mcode 291) 658 = _ by decide +kernel) (show decode (mcode 291) 659 = _ by decide +kernel) (show decode (mcode 291) 660 = _ by decide +kernel) (show decode (mcode 291) 661 = _ by decide +kernel) ?_
  refine law_ld (j := 4) hI1 h6 hL (by decide) rfl rfl (show decode (mcode 291) 662 = _ by decide +kernel) (show decode (mcode 291) 663 = _ by decide +kernel) (show decode (mcode 291) 664 = _ by decide +kernel) (show decode (mcode 291) 665 = _ by decide +kernel) (show decode (mcode 291) 666 = _ by decide +kernel) ?_
  refine law_ld (j := 5) hI1 h6 hL (by decide) rfl rfl (show decode (mcode 291) 667 = _ by decide +kernel) (show decode (mcode 291) 668 = _ by decide +kernel) (show decode (mcode 291) 669 = _ by decide +kernel) (show decode (mcode 291) 670 = _ by decide +kernel) (show decode (mcode 291) 671 = _ by decide +kernel) ?_
  refine law_Y (z := z) (na := 5) (t := t_k247) (ρ := rl [0, scr L xs (6 * n + 1), scr L xs (6 * n + 2), scr L xs (6 * n + 3), scr L xs (6 * n + 4), scr L xs (6 * n + 5), l]) [vi (scr L xs (6 * n + 1)), vi (scr L xs (6 * n + 2)), vi (scr L xs (6 * n + 3)), vi (scr L xs (6 * n + 4)), vi (scr L xs (6 * n + 5))] [vi l] (fun g => KOKx_of (k_k247 g)) (show (okY t_k247 && (Nat.beq 1 (gN t_k247) && Nat.ble (kD t_k247) 20)) = true by decide +kernel) hI1 (preYz [(479, [(2, 0, 40, 0), (1, 6, 0, 0)]), (472, [(1, 1, 0, 0), (1, 6, 0, 0)]), (472, [(1, 2, 0, 0), (1, 6, 0, 4)]), (472, [(1, 3, 0, 0), (1, 6, 0, 8)]), (472, [(1, 4, 0, 0), (1, 6, 0, 12)]), (472, [(1, 5, 0, 0), (1, 6, 0, 16)])] (by decide +kernel) (by omega) hI1 (fun f hf => by
              rcases List.mem_cons.mp hf with rfl | hf
              · exact (by show PSt _ 479 [vr Y, vi (l + 0)] Γ1 M1; rw [Int.add_zero]; exact B3)
              rcases List.mem_cons.mp hf with rfl | hf
              · exact w0
              rcases List.mem_cons.mp hf with rfl | hf
              · exact w1
              rcases List.mem_cons.mp hf with rfl | hf
              · exact w2
              rcases List.mem_cons.mp hf with rfl | hf
              · exact w3
              cases List.mem_singleton.mp hf
              exact w4)) hd (BO_rl ⟨⟨by decide, by decide⟩, scr_b, scr_b, scr_b, scr_b, scr_b, lb, trivial⟩) ⟨⟨rfl, hI1.2.2.2.2.2.2.1, by decide⟩, ar1 (i := 1), ar1 (i := 2), ar1 (i := 3), ar1 (i := 4), ar1 (i := 5), ar1g (i := 6), trivial⟩ (show decode (mcode 291) 672 = _ by decide +kernel) (show pool (mcls 291) 79 = _ by decide +kernel) rfl (by decide +kernel) (by decide +kernel) (by decide +kernel) (Nat.le_of_ble_eq_true rfl) (fun r2 Γ2 M2 hI2 a2 b2 R2 F2 G2 _ => ?_)
  obtain ⟨rfl, C2⟩ := fed_r (fx := 480) (τ := 40) (by decide) rfl (by decide) (by decide) R2
  have C3 := kX474 (t := t_k247) (by decide +kernel) hI1.1 hI2.1 F2 G2 (a478 C1)
  have A2 : AL X Y Γ2 M2 := ⟨⟨z, _, z474 (fun _ _ => rfl) C3, z479 (fun _ _ => rfl) (a480 C2)⟩, kq (t1 := t_k132) (t2 := t_k247) (by decide +kernel) (by decide +kernel) hI F1 G1 hI1 F2 G2 A3⟩
  refine m_pop (show decode (mcode 291) 675 = _ by decide +kernel) rfl ?_
  exact m_goto (off := 777) 1453 (show decode (mcode 291) 676 = _ by decide +kernel) (by decide) (kk Γ2 M2 hI2 A2 (by omega) (by omega))
set_option maxRecDepth 100000 in
theorem law_c15 {d L : Nat} {xs : Nat → Int32} {X Y n : Nat} {Γ : Nat → Nat} {M : MM} {Q : Option MV → MM → Prop} (hd : 20 ≤ d) (hI : INV L xs X Y n n Γ M) (hA : AL X Y Γ M) (hn : n ≤ 512) (h6 : 6 * n + 6 ≤ L) (hL : L ≤ 3072) (kk : ∀ Γ2 M2, INV L xs X Y (n + 1) (n + 1) Γ2 M2 → AL X Y Γ2 M2 → M2.1 ≤ M.1 + 19 → M2.2.1 ≤ M.2.1 + 2600 → Wm d 291 1453 (lsn X Y n) [] M2 Q) : Wm d 291 679 (lsn X Y n) [] M Q := by
  refine m_aload (i := 1) (show decode (mcode 291) 679 = _ by decide +kernel) rfl ?_
  refine law_ld (j := 1) hI h6 hL (by decide) rfl rfl (show decode (mcode 291) 680 = _ by decide +kernel) (show decode (mcode 291) 681 = _ by decide +kernel) (show decode (mcode 291) 682 = _ by decide +kernel) (show decode (mcode 291) 683 = _ by decide +kernel) (show decode (mcode 291) 684 = _ by decide +kernel) ?_
  obtain ⟨⟨z, l, A1, A2⟩, A3⟩ := hA
  have lb := le474 hI.1 A1
  have B1 : PSt (gZ n z) 474 [vr X, vi l] Γ M := z474 (fun _ _ => rfl) A1
  have B2 : PSt (gZ n z) 479 [vr Y, vi l] Γ M := z479 (fun _ _ => rfl) A2
  refine law_X (z := z) (na := 1) (t := t_k133) (ρ := rl [0, scr L xs (6 * n + 1), l]) [vi (scr L xs (6 * n + 1))] [vi l] (fun g => KOKx_of (k_k133 g)) (show (okX t_k133 && (Nat.beq 1 (gN t_k133) && Nat.ble (kD t_k133) 20)) = true by decide +kernel) hI (preXz [(474, [(2, 0, 54, 0), (1, 2, 0, 0)])] (by decide +kernel) (by omega) hI (fun f hf => by cases List.mem_singleton.mp hf; exact (by show PSt _ 474 [vr X, vi (l + 0)] Γ M; rw [Int.add_zero]; exact B1))) hd (BO_rl ⟨⟨by decide, by decide⟩, scr_b, lb, trivial⟩) ⟨⟨rfl, hI.2.2.2.2.2.1, by decide⟩, ar1 (i := 1), ar1g (i := 2), trivial⟩ (show decode (mcode 291) 685 = _ by decide +kernel) (show pool (mcls 291) 80 = _ by decide +kernel) rfl (by decide +kernel) (by decide +kernel) (by decide +kernel) (Nat.le_of_ble_eq_true rfl) (fun r1 Γ1 M1 hI1 a1 b1 R1 F1 G1 _ => ?_)
  have E1 := end_r (fx := 474) (τ := 54) (by decide) (by decide) (by decide) (by decide) (by decide) R1
  have B3 := kY479 (t := t_k133) (by decide +kernel) hI.1 hI1.1 F1 G1 B2
  obtain ⟨x1, rfl⟩ := res_i (by decide) R1
  refine m_aload (i := 2) (show decode (mcode 291) 688 = _ by decide +kernel) rfl ?_
  refine law_ld (j := 1) hI1 h6 hL (by decide) rfl rfl (show decode (mcode 291) 689 = _ by decide +kernel) (show decode (mcode 291) 690 = _ by decide +kernel) (show decode (mcode 291) 691 = _ by decide +kernel) (show decode (mcode 291) 692 = _ by decide +kernel) (show decode (mcode 291) 693 = _ by decide +kernel) ?_
  refine law_Y (z := z) (na := 1) (t := t_k248) (ρ := rl [0, scr L xs (6 * n + 1), l]) [vi (scr L xs (6 * n + 1))] [vi l] (fun g => KOKx_of (k_k248 g)) (show (okY t_k248 && (Nat.beq 1 (gN t_k248) && Nat.ble (kD t_k248) 20)) = true by decide +kernel) hI1 (preYz [(479, [(2, 0, 40, 0), (1, 2, 0, 0)])] (by decide +kernel) (by omega) hI1 (fun f hf => by cases List.mem_singleton.mp hf; exact (by show PSt _ 479 [vr Y, vi (l + 0)] Γ1 M1; rw [Int.add_zero]; exact B3))) hd (BO_rl ⟨⟨by decide, by decide⟩, scr_b, lb, trivial⟩) ⟨⟨rfl, hI1.2.2.2.2.2.2.1, by decide⟩, ar1 (i := 1), ar1g (i := 2), trivial⟩ (show decode (mcode 291) 694 = _ by decide +kernel) (show pool (mcls 291) 83 = _ by decide +kernel) rfl (by decide +kernel) (by decide +kernel) (by decide +kernel) (Nat.le_of_ble_eq_true rfl) (fun r2 Γ2 M2 hI2 a2 b2 R2 F2 G2 _ => ?_)
  have E2 := end_r (fx := 479) (τ := 40) (by decide) (by decide) (by decide) (by decide) (by decide) R2
  have H : ∃ y, some (vi x1) = some (vi y) ∧ r2 = some (vi y) ∧ AL X Y Γ2 M2 := by
    rcases E1 with ⟨p1, q1, s1⟩ | ⟨p1, q1, s1⟩ <;> rcases E2 with ⟨p2, q2, s2⟩ | ⟨p2, q2, s2⟩
    · exact ⟨1, p1, p2, ⟨⟨z, _, z474 (fun _ _ => rfl) (kX474 (t := t_k248) (by decide +kernel) hI1.1 hI2.1 F2 G2 s1), z479 (fun _ _ => rfl) s2⟩, kq (t1 := t_k133) (t2 := t_k248) (by decide +kernel) (by decide +kernel) hI F1 G1 hI1 F2 G2 A3⟩⟩
    · omega
    · omega
    · exact ⟨0, p1, p2, ⟨⟨z, _, z474 (fun _ _ => rfl) (kX474 (t := t_k248) (by decide +kernel) hI1.1 hI2.1 F2 G2 s1), z479 (fun _ _ => rfl) s2⟩, kq (t1 := t_k133) (t2 := t_k248) (by decide +kernel) (by decide +kernel) hI F1 G1 hI1 F2 G2 A3⟩⟩
  obtain ⟨y, e1, rfl, A2⟩ := H
  cases e1
  obtain ⟨s2, u2, K2, R2h, I2⟩ := M2
  exact s_icmp_eq (off := 756) 1453 (show decode (mcode 291) 697 = _ by decide +kernel) (by decide) (fun _ => kk Γ2 _ hI2 A2 (by omega) (by omega)) (fun hne => absurd (rfl) hne)
set_option maxRecDepth 100000 in
theorem law_c16 {d L : Nat} {xs : Nat → Int32} {X Y n : Nat} {Γ : Nat → Nat} {M : MM} {Q : Option MV → MM → Prop} (hd : 20 ≤ d) (hI : INV L xs X Y n n Γ M) (hA : AL X Y Γ M) (hn : n ≤ 512) (h6 : 6 * n + 6 ≤ L) (hL : L ≤ 3072) (kk : ∀ Γ2 M2, INV L xs X Y (n + 1) (n + 1) Γ2 M2 → AL X Y Γ2 M2 → M2.1 ≤ M.1 + 19 → M2.2.1 ≤ M.2.1 + 2600 → Wm d 291 1453 (lsn X Y n) [] M2 Q) : Wm d 291 702 (lsn X Y n) [] M Q := by
  refine m_aload (i := 1) (show decode (mcode 291) 702 = _ by decide +kernel) rfl ?_
  obtain ⟨⟨z0, l, A1, A2⟩, A3⟩ := hA
  have lb := le474 hI.1 A1
  obtain ⟨z, zl, zb⟩ := text_z n z0 l lb.1 lb.2
  refine law_X (z := z) (na := 0) (t := t_k134) (ρ := rl [0]) [] [] (fun g => KOKx_of (k_k134 g)) (show (okX t_k134 && (Nat.beq 0 (gN t_k134) && Nat.ble (kD t_k134) 20)) = true by decide +kernel) hI (preXz [(496, [(2, 0, 54, 0)])] (by decide +kernel) (by omega) hI (fun f hf => by cases List.mem_singleton.mp hf; exact f496 zl zb A1)) hd (BO_rl ⟨⟨by decide, by decide⟩, trivial⟩) ⟨⟨rfl, hI.2.2.2.2.2.1, by decide⟩, trivial⟩ (show decode (mcode 291) 703 = _ by decide +kernel) (show pool (mcls 291) 84 = _ by decide +kernel) rfl (by decide +kernel) (by decide +kernel) (by decide +kernel) (Nat.le_of_ble_eq_true rfl) (fun r1 Γ1 M1 hI1 a1 b1 R1 F1 G1 _ => ?_)
  obtain ⟨x1, rfl, T1, E1, U1⟩ := txt_r (fx := 474) (fy := 484) (τ := 54) (by decide) rfl (by decide) (by decide) (by decide) R1
  have B3 := k497 (t := t_k134) (by decide +kernel) hI.1 hI1.1 F1 G1 (f497 zl zb A2)
  refine m_pop (show decode (mcode 291) 706 = _ by decide +kernel) rfl ?_
  refine m_aload (i := 2) (show decode (mcode 291) 707 = _ by decide +kernel) rfl ?_
  refine law_Y (z := z) (na := 0) (t := t_k251) (ρ := rl [0]) [] [] (fun g => KOKx_of (k_k251 g)) (show (okY t_k251 && (Nat.beq 0 (gN t_k251) && Nat.ble (kD t_k251) 20)) = true by decide +kernel) hI1 (preYz [(497, [(2, 0, 40, 0)])] (by decide +kernel) (by omega) hI1 (fun f hf => by cases List.mem_singleton.mp hf; exact B3)) hd (BO_rl ⟨⟨by decide, by decide⟩, trivial⟩) ⟨⟨rfl, hI1.2.2.2.2.2.2.1, by decide⟩, trivial⟩ (show decode (mcode 291) 708 = _ by decide +kernel) (show pool (mcls 291) 87 = _ by decide +kernel) rfl (by decide +kernel) (by decide +kernel) (by decide +kernel) (Nat.le_of_ble_eq_true rfl) (fun r2 Γ2 M2 hI2 a2 b2 R2 F2 G2 _ => ?_)
  obtain ⟨x2, rfl, T2, E2, U2⟩ := txt_r (fx := 479) (fy := 485) (τ := 40) (by decide) rfl (by decide) (by decide) (by decide) R2
  have A2 : AL X Y Γ2 M2 := ⟨⟨0, 0, z474 (fun _ h => absurd h (by omega)) (kX474 (t := t_k251) (by decide +kernel) hI1.1 hI2.1 F2 G2 E1), z479 (fun _ h => absurd h (by omega)) E2⟩, (al_xi (t := t_k251) 10 (by decide +kernel) hI1 F2 G2).trans (TR_one (u484 U1) (u485 U2))⟩
  refine m_pop (show decode (mcode 291) 711 = _ by decide +kernel) rfl ?_
  exact m_goto (off := 741) 1453 (show decode (mcode 291) 712 = _ by decide +kernel) (by decide) (kk Γ2 M2 hI2 A2 (by omega) (by omega))
set_option maxRecDepth 100000 in
theorem law_c17 {d L : Nat} {xs : Nat → Int32} {X Y n : Nat} {Γ : Nat → Nat} {M : MM} {Q : Option MV → MM → Prop} (hd : 20 ≤ d) (hI : INV L xs X Y n n Γ M) (hA : AL X Y Γ M) (hn : n ≤ 512) (h6 : 6 * n + 6 ≤ L) (hL : L ≤ 3072) (kk : ∀ Γ2 M2, INV L xs X Y (n + 1) (n + 1) Γ2 M2 → AL X Y Γ2 M2 → M2.1 ≤ M.1 + 19 → M2.2.1 ≤ M.2.1 + 2600 → Wm d 291 1453 (lsn X Y n) [] M2 Q) : Wm d 291 715 (lsn X Y n) [] M Q := by
  refine m_aload (i := 1) (show decode (mcode 291) 715 = _ by decide +kernel) rfl ?_
  have A3 := hA.2
  have fb := fau_b hI
  generalize hv : M.2.2.2.2 X 10 = v at A3 fb
  refine law_X (z := 0) (na := 0) (t := t_k135) (ρ := rl [0, v]) [] [vi v] (fun g => KOKx_of (k_k135 g)) (show (okX t_k135 && (Nat.beq 1 (gN t_k135) && Nat.ble (kD t_k135) 20)) = true by decide +kernel) hI (preXz [(4466, [(2, 0, 54, 0), (1, 1, 0, 0), (1, 1, 0, 0)])] (by decide +kernel) (by omega) hI (fun f hf => by cases List.mem_singleton.mp hf; exact ffid (τ := 54) (j := 10) (by decide) (by decide) hI.2.2.2.2.2.1 hv)) hd (BO_rl ⟨⟨by decide, by decide⟩, fb, trivial⟩) ⟨⟨rfl, hI.2.2.2.2.2.1, by decide⟩, ar1g (i := 1), trivial⟩ (show decode (mcode 291) 716 = _ by decide +kernel) (show pool (mcls 291) 88 = _ by decide +kernel) rfl (by decide +kernel) (by decide +kernel) (by decide +kernel) (Nat.le_of_ble_eq_true rfl) (fun r1 Γ1 M1 hI1 a1 b1 R1 F1 G1 _ => ?_)
  obtain rfl := fau_r (by decide) rfl (by decide) R1
  have A1 := AL_keep (t := t_k135) (by decide +kernel) hI hI1 F1 G1 hA
  have w : M1.2.2.2.2 Y 17 = v := (al_yi (t := t_k135) 17 (by decide +kernel) hI F1 G1).trans A3.symm
  refine m_pop (show decode (mcode 291) 719 = _ by decide +kernel) rfl ?_
  refine m_aload (i := 2) (show decode (mcode 291) 720 = _ by decide +kernel) rfl ?_
  refine law_Y (z := 0) (na := 0) (t := t_k252) (ρ := rl [0, v]) [] [vi v] (fun g => KOKx_of (k_k252 g)) (show (okY t_k252 && (Nat.beq 1 (gN t_k252) && Nat.ble (kD t_k252) 20)) = true by decide +kernel) hI1 (preYz [(3577, [(2, 0, 40, 0), (1, 1, 0, 0), (1, 1, 0, 0)])] (by decide +kernel) (by omega) hI1 (fun f hf => by cases List.mem_singleton.mp hf; exact ffid (τ := 40) (j := 17) (by decide) (by decide) hI1.2.2.2.2.2.2.1 w)) hd (BO_rl ⟨⟨by decide, by decide⟩, fb, trivial⟩) ⟨⟨rfl, hI1.2.2.2.2.2.2.1, by decide⟩, ar1g (i := 1), trivial⟩ (show decode (mcode 291) 721 = _ by decide +kernel) (show pool (mcls 291) 91 = _ by decide +kernel) rfl (by decide +kernel) (by decide +kernel) (by decide +kernel) (Nat.le_of_ble_eq_true rfl) (fun r2 Γ2 M2 hI2 a2 b2 R2 F2 G2 _ => ?_)
  obtain rfl := fau_r (by decide) rfl (by decide) R2
  have A2 := AL_keep (t := t_k252) (by decide +kernel) hI1 hI2 F2 G2 A1
  refine m_pop (show decode (mcode 291) 724 = _ by decide +kernel) rfl ?_
  exact m_goto (off := 728) 1453 (show decode (mcode 291) 725 = _ by decide +kernel) (by decide) (kk Γ2 M2 hI2 A2 (by omega) (by omega))
set_option maxRecDepth 100000 in
theorem law_c18 {d L : Nat} {xs : Nat → Int32} {X Y n : Nat} {Γ : Nat → Nat} {M : MM} {Q : Option MV → MM → Prop} (hd : 20 ≤ d) (hI : INV L xs X Y n n Γ M) (hA : AL X Y Γ M) (hn : n ≤ 512) (h6 : 6 * n + 6 ≤ L) (hL : L ≤ 3072) (kk : ∀ Γ2 M2, INV L xs X Y (n + 1) (n + 1) Γ2 M2 → AL X Y Γ2 M2 → M2.1 ≤ M.1 + 19 → M2.2.1 ≤ M.2.1 + 2600 → Wm d 291 1453 (lsn X Y n) [] M2 Q) : Wm d 291 728 (lsn X Y n) [] M Q := by
  refine m_aload (i := 1) (show decode (mcode 291) 728 = _ by decide +kernel) rfl ?_
  refine law_ld (j := 1) hI h6 hL (by decide) rfl rfl (show decode (mcode 291) 729 = _ by decide +kernel) (show decode (mcode 291) 730 = _ by decide +kernel) (show decode (mcode 291) 731 = _ by decide +kernel) (show decode (mcode 291) 732 = _ by decide +kernel) (show decode (mcode 291) 733 = _ by decide +kernel) ?_
  refine law_ld (j := 2) hI h6 hL (by decide) rfl rfl (show decode (mcode 291) 734 = _ by decide +kernel) (show decode (mcode 291) 735 = _ by decide +kernel) (show decode (mcode 291) 736 = _ by decide +kernel) (show decode (mcode 291) 737 = _ by decide +kernel) (show decode (mcode 291) 738 = _ by decide +kernel) ?_
  refine law_X (na := 2) (t := t_k136) (ρ := rl [0, scr L xs (6 * n + 1), scr L xs (6 * n + 2)]) [vi (scr L xs (6 * n + 1)), vi (scr L xs (6 * n + 2))] [] (fun g => KOKx_of (k_k136 g)) (by decide +kernel) hI (preX_ok (by decide +kernel) (by omega) hI) hd (BO_rl ⟨⟨by decide, by decide⟩, scr_b, scr_b, trivial⟩) ⟨⟨rfl, hI.2.2.2.2.2.1, by decide⟩, ar1 (i := 1), ar1 (i := 2), trivial⟩ (show decode (mcode 291) 739 = _ by decide +kernel) (show pool (mcls 291) 92 = _ by decide +kernel) rfl (by decide +kernel) (by decide +kernel) (by decide +kernel) (Nat.le_of_ble_eq_true rfl) (fun r1 Γ1 M1 hI1 a1 b1 R1 F1 G1 _ => ?_)
  have A1 := AL_keep (t := t_k136) (by decide +kernel) hI hI1 F1 G1 hA
  obtain ⟨x1, rfl⟩ := res_i (by decide) R1
  refine m_pop (show decode (mcode 291) 742 = _ by decide +kernel) rfl ?_
  refine m_aload (i := 2) (show decode (mcode 291) 743 = _ by decide +kernel) rfl ?_
  refine law_ld (j := 1) hI1 h6 hL (by decide) rfl rfl (show decode (mcode 291) 744 = _ by decide +kernel) (show decode (mcode 291) 745 = _ by decide +kernel) (show decode (mcode 291) 746 = _ by decide +kernel) (show decode (mcode 291) 747 = _ by decide +kernel) (show decode (mcode 291) 748 = _ by decide +kernel) ?_
  refine law_ld (j := 2) hI1 h6 hL (by decide) rfl rfl (show decode (mcode 291) 749 = _ by decide +kernel) (show decode (mcode 291) 750 = _ by decide +kernel) (show decode (mcode 291) 751 = _ by decide +kernel) (show decode (mcode 291) 752 = _ by decide +kernel) (show decode (mcode 291) 753 = _ by decide +kernel) ?_
  refine law_Y (na := 2) (t := t_k254) (ρ := rl [0, scr L xs (6 * n + 1), scr L xs (6 * n + 2)]) [vi (scr L xs (6 * n + 1)), vi (scr L xs (6 * n + 2))] [] (fun g => KOKx_of (k_k254 g)) (by decide +kernel) hI1 (preY_ok (by decide +kernel) (by omega) hI1) hd (BO_rl ⟨⟨by decide, by decide⟩, scr_b, scr_b, trivial⟩) ⟨⟨rfl, hI1.2.2.2.2.2.2.1, by decide⟩, ar1 (i := 1), ar1 (i := 2), trivial⟩ (show decode (mcode 291) 754 = _ by decide +kernel) (show pool (mcls 291) 95 = _ by decide +kernel) rfl (by decide +kernel) (by decide +kernel) (by decide +kernel) (Nat.le_of_ble_eq_true rfl) (fun r2 Γ2 M2 hI2 a2 b2 R2 F2 G2 _ => ?_)
  have A2 := AL_keep (t := t_k254) (by decide +kernel) hI1 hI2 F2 G2 A1
  obtain ⟨x2, rfl⟩ := res_i (by decide) R2
  refine m_pop (show decode (mcode 291) 757 = _ by decide +kernel) rfl ?_
  exact m_goto (off := 695) 1453 (show decode (mcode 291) 758 = _ by decide +kernel) (by decide) (kk Γ2 M2 hI2 A2 (by omega) (by omega))
set_option maxRecDepth 100000 in
theorem law_c19 {d L : Nat} {xs : Nat → Int32} {X Y n : Nat} {Γ : Nat → Nat} {M : MM} {Q : Option MV → MM → Prop} (hd : 20 ≤ d) (hI : INV L xs X Y n n Γ M) (hA : AL X Y Γ M) (hn : n ≤ 512) (h6 : 6 * n + 6 ≤ L) (hL : L ≤ 3072) (kk : ∀ Γ2 M2, INV L xs X Y (n + 1) (n + 1) Γ2 M2 → AL X Y Γ2 M2 → M2.1 ≤ M.1 + 19 → M2.2.1 ≤ M.2.1 + 2600 → Wm d 291 1453 (lsn X Y n) [] M2 Q) : Wm d 291 761 (lsn X Y n) [] M Q := by
  refine m_aload (i := 1) (show decode (mcode 291) 761 = _ by decide +kernel) rfl ?_
  refine law_ld (j := 1) hI h6 hL (by decide) rfl rfl (show decode (mcode 291) 762 = _ by decide +kernel) (show decode (mcode 291) 763 = _ by decide +kernel) (show decode (mcode 291) 764 = _ by decide +kernel) (show decode (mcode 291) 765 = _ by decide +kernel) (show decode (mcode 291) 766 = _ by decide +kernel) ?_
  refine law_X (na := 1) (t := t_k137) (ρ := rl [0, scr L xs (6 * n + 1)]) [vi (scr L xs (6 * n + 1))] [] (fun g => KOKx_of (k_k137 g)) (by decide +kernel) hI (preX_ok (by decide +kernel) (by omega) hI) hd (BO_rl ⟨⟨by decide, by decide⟩, scr_b, trivial⟩) ⟨⟨rfl, hI.2.2.2.2.2.1, by decide⟩, ar1 (i := 1), trivial⟩ (show decode (mcode 291) 767 = _ by decide +kernel) (show pool (mcls 291) 96 = _ by decide +kernel) rfl (by decide +kernel) (by decide +kernel) (by decide +kernel) (Nat.le_of_ble_eq_true rfl) (fun r1 Γ1 M1 hI1 a1 b1 R1 F1 G1 _ => ?_)
  have A1 := AL_keep (t := t_k137) (by decide +kernel) hI hI1 F1 G1 hA
  obtain ⟨x1, rfl⟩ := res_i (by decide) R1
  refine m_pop (show decode (mcode 291) 770 = _ by decide +kernel) rfl ?_
  refine m_aload (i := 2) (show decode (mcode 291) 771 = _ by decide +kernel) rfl ?_
  refine law_ld (j := 1) hI1 h6 hL (by decide) rfl rfl (show decode (mcode 291) 772 = _ by decide +kernel) (show decode (mcode 291) 773 = _ by decide +kernel) (show decode (mcode 291) 774 = _ by decide +kernel) (show decode (mcode 291) 775 = _ by decide +kernel) (show decode (mcode 291) 776 = _ by decide +kernel) ?_
  refine law_Y (na := 1) (t := t_k255) (ρ := rl [0, scr L xs (6 * n + 1)]) [vi (scr L xs (6 * n + 1))] [] (fun g => KOKx_of (k_k255 g)) (by decide +kernel) hI1 (preY_ok (by decide +kernel) (by omega) hI1) hd (BO_rl ⟨⟨by decide, by decide⟩, scr_b, trivial⟩) ⟨⟨rfl, hI1.2.2.2.2.2.2.1, by decide⟩, ar1 (i := 1), trivial⟩ (show decode (mcode 291) 777 = _ by decide +kernel) (show pool (mcls 291) 99 = _ by decide +kernel) rfl (by decide +kernel) (by decide +kernel) (by decide +kernel) (Nat.le_of_ble_eq_true rfl) (fun r2 Γ2 M2 hI2 a2 b2 R2 F2 G2 _ => ?_)
  have A2 := AL_keep (t := t_k255) (by decide +kernel) hI1 hI2 F2 G2 A1
  obtain ⟨x2, rfl⟩ := res_i (by decide) R2
  refine m_pop (show decode (mcode 291) 780 = _ by decide +kernel) rfl ?_
  exact m_goto (off := 672) 1453 (show decode (mcode 291) 781 = _ by decide +kernel) (by decide) (kk Γ2 M2 hI2 A2 (by omega) (by omega))
set_option maxRecDepth 100000 in
theorem law_c20 {d L : Nat} {xs : Nat → Int32} {X Y n : Nat} {Γ : Nat → Nat} {M : MM} {Q : Option MV → MM → Prop} (hd : 20 ≤ d) (hI : INV L xs X Y n n Γ M) (hA : AL X Y Γ M) (hn : n ≤ 512) (h6 : 6 * n + 6 ≤ L) (hL : L ≤ 3072) (kk : ∀ Γ2 M2, INV L xs X Y (n + 1) (n + 1) Γ2 M2 → AL X Y Γ2 M2 → M2.1 ≤ M.1 + 19 → M2.2.1 ≤ M.2.1 + 2600 → Wm d 291 1453 (lsn X Y n) [] M2 Q) : Wm d 291 784 (lsn X Y n) [] M Q := by
  refine m_aload (i := 1) (show decode (mcode 291) 784 = _ by decide +kernel) rfl ?_
  refine law_ld (j := 1) hI h6 hL (by decide) rfl rfl (show decode (mcode 291) 785 = _ by decide +kernel) (show decode (mcode 291) 786 = _ by decide +kernel) (show decode (mcode 291) 787 = _ by decide +kernel) (show decode (mcode 291) 788 = _ by decide +kernel) (show decode (mcode 291) 789 = _ by decide +kernel) ?_
  refine law_ld (j := 2) hI h6 hL (by decide) rfl rfl (show decode (mcode 291) 790 = _ by decide +kernel) (show decode (mcode 291) 791 = _ by decide +kernel) (show decode (mcode 291) 792 = _ by decide +kernel) (show decode (mcode 291) 793 = _ by decide +kernel) (show decode (mcode 291) 794 = _ by decide +kernel) ?_
  refine law_X (na := 2) (t := t_k138) (ρ := rl [0, scr L xs (6 * n + 1), scr L xs (6 * n + 2)]) [vi (scr L xs (6 * n + 1)), vi (scr L xs (6 * n + 2))] [] (fun g => KOKx_of (k_k138 g)) (by decide +kernel) hI (preX_ok (by decide +kernel) (by omega) hI) hd (BO_rl ⟨⟨by decide, by decide⟩, scr_b, scr_b, trivial⟩) ⟨⟨rfl, hI.2.2.2.2.2.1, by decide⟩, ar1 (i := 1), ar1 (i := 2), trivial⟩ (show decode (mcode 291) 795 = _ by decide +kernel) (show pool (mcls 291) 100 = _ by decide +kernel) rfl (by decide +kernel) (by decide +kernel) (by decide +kernel) (Nat.le_of_ble_eq_true rfl) (fun r1 Γ1 M1 hI1 a1 b1 R1 F1 G1 _ => ?_)
  have A1 := AL_keep (t := t_k138) (by decide +kernel) hI hI1 F1 G1 hA
  obtain ⟨x1, rfl⟩ := res_i (by decide) R1
  refine m_pop (show decode (mcode 291) 798 = _ by decide +kernel) rfl ?_
  refine m_aload (i := 2) (show decode (mcode 291) 799 = _ by decide +kernel) rfl ?_
  refine law_ld (j := 1) hI1 h6 hL (by decide) rfl rfl (show decode (mcode 291) 800 = _ by decide +kernel) (show decode (mcode 291) 801 = _ by decide +kernel) (show decode (mcode 291) 802 = _ by decide +kernel) (show decode (mcode 291) 803 = _ by decide +kernel) (show decode (mcode 291) 804 = _ by decide +kernel) ?_
  refine law_ld (j := 2) hI1 h6 hL (by decide) rfl rfl (show decode (mcode 291) 805 = _ by decide +kernel) (show decode (mcode 291) 806 = _ by decide +kernel) (show decode (mcode 291) 807 = _ by decide +kernel) (show decode (mcode 291) 808 = _ by decide +kernel) (show decode (mcode 291) 809 = _ by decide +kernel) ?_
  refine law_Y (na := 2) (t := t_k256) (ρ := rl [0, scr L xs (6 * n + 1), scr L xs (6 * n + 2)]) [vi (scr L xs (6 * n + 1)), vi (scr L xs (6 * n + 2))] [] (fun g => KOKx_of (k_k256 g)) (by decide +kernel) hI1 (preY_ok (by decide +kernel) (by omega) hI1) hd (BO_rl ⟨⟨by decide, by decide⟩, scr_b, scr_b, trivial⟩) ⟨⟨rfl, hI1.2.2.2.2.2.2.1, by decide⟩, ar1 (i := 1), ar1 (i := 2), trivial⟩ (show decode (mcode 291) 810 = _ by decide +kernel) (show pool (mcls 291) 103 = _ by decide +kernel) rfl (by decide +kernel) (by decide +kernel) (by decide +kernel) (Nat.le_of_ble_eq_true rfl) (fun r2 Γ2 M2 hI2 a2 b2 R2 F2 G2 _ => ?_)
  have A2 := AL_keep (t := t_k256) (by decide +kernel) hI1 hI2 F2 G2 A1
  obtain ⟨x2, rfl⟩ := res_i (by decide) R2
  refine m_pop (show decode (mcode 291) 813 = _ by decide +kernel) rfl ?_
  exact m_goto (off := 639) 1453 (show decode (mcode 291) 814 = _ by decide +kernel) (by decide) (kk Γ2 M2 hI2 A2 (by omega) (by omega))
set_option maxRecDepth 100000 in
theorem law_c21 {d L : Nat} {xs : Nat → Int32} {X Y n : Nat} {Γ : Nat → Nat} {M : MM} {Q : Option MV → MM → Prop} (hd : 20 ≤ d) (hI : INV L xs X Y n n Γ M) (hA : AL X Y Γ M) (hn : n ≤ 512) (h6 : 6 * n + 6 ≤ L) (hL : L ≤ 3072) (kk : ∀ Γ2 M2, INV L xs X Y (n + 1) (n + 1) Γ2 M2 → AL X Y Γ2 M2 → M2.1 ≤ M.1 + 19 → M2.2.1 ≤ M.2.1 + 2600 → Wm d 291 1453 (lsn X Y n) [] M2 Q) : Wm d 291 817 (lsn X Y n) [] M Q := by
  refine m_aload (i := 1) (show decode (mcode 291) 817 = _ by decide +kernel) rfl ?_
  refine law_ld (j := 1) hI h6 hL (by decide) rfl rfl (show decode (mcode 291) 818 = _ by decide +kernel) (show decode (mcode 291) 819 = _ by decide +kernel) (show decode (mcode 291) 820 = _ by decide +kernel) (show decode (mcode 291) 821 = _ by decide +kernel) (show decode (mcode 291) 822 = _ by decide +kernel) ?_
  refine law_X (na := 1) (t := t_k139) (ρ := rl [0, scr L xs (6 * n + 1)]) [vi (scr L xs (6 * n + 1))] [] (fun g => KOKx_of (k_k139 g)) (by decide +kernel) hI (preX_ok (by decide +kernel) (by omega) hI) hd (BO_rl ⟨⟨by decide, by decide⟩, scr_b, trivial⟩) ⟨⟨rfl, hI.2.2.2.2.2.1, by decide⟩, ar1 (i := 1), trivial⟩ (show decode (mcode 291) 823 = _ by decide +kernel) (show pool (mcls 291) 104 = _ by decide +kernel) rfl (by decide +kernel) (by decide +kernel) (by decide +kernel) (Nat.le_of_ble_eq_true rfl) (fun r1 Γ1 M1 hI1 a1 b1 R1 F1 G1 _ => ?_)
  have A1 := AL_keep (t := t_k139) (by decide +kernel) hI hI1 F1 G1 hA
  obtain ⟨x1, rfl⟩ := res_i (by decide) R1
  refine m_pop (show decode (mcode 291) 826 = _ by decide +kernel) rfl ?_
  refine m_aload (i := 2) (show decode (mcode 291) 827 = _ by decide +kernel) rfl ?_
  refine law_ld (j := 1) hI1 h6 hL (by decide) rfl rfl (show decode (mcode 291) 828 = _ by decide +kernel) (show decode (mcode 291) 829 = _ by decide +kernel) (show decode (mcode 291) 830 = _ by decide +kernel) (show decode (mcode 291) 831 = _ by decide +kernel) (show decode (mcode 291) 832 = _ by decide +kernel) ?_
  refine law_Y (na := 1) (t := t_k257) (ρ := rl [0, scr L xs (6 * n + 1)]) [vi (scr L xs (6 * n + 1))] [] (fun g => KOKx_of (k_k257 g)) (by decide +kernel) hI1 (preY_ok (by decide +kernel) (by omega) hI1) hd (BO_rl ⟨⟨by decide, by decide⟩, scr_b, trivial⟩) ⟨⟨rfl, hI1.2.2.2.2.2.2.1, by decide⟩, ar1 (i := 1), trivial⟩ (show decode (mcode 291) 833 = _ by decide +kernel) (show pool (mcls 291) 107 = _ by decide +kernel) rfl (by decide +kernel) (by decide +kernel) (by decide +kernel) (Nat.le_of_ble_eq_true rfl) (fun r2 Γ2 M2 hI2 a2 b2 R2 F2 G2 _ => ?_)
  have A2 := AL_keep (t := t_k257) (by decide +kernel) hI1 hI2 F2 G2 A1
  obtain ⟨x2, rfl⟩ := res_i (by decide) R2
  refine m_pop (show decode (mcode 291) 836 = _ by decide +kernel) rfl ?_
  exact m_goto (off := 616) 1453 (show decode (mcode 291) 837 = _ by decide +kernel) (by decide) (kk Γ2 M2 hI2 A2 (by omega) (by omega))
set_option maxRecDepth 100000 in
theorem law_c22 {d L : Nat} {xs : Nat → Int32} {X Y n : Nat} {Γ : Nat → Nat} {M : MM} {Q : Option MV → MM → Prop} (hd : 20 ≤ d) (hI : INV L xs X Y n n Γ M) (hA : AL X Y Γ M) (hn : n ≤ 512) (h6 : 6 * n + 6 ≤ L) (hL : L ≤ 3072) (kk : ∀ Γ2 M2, INV L xs X Y (n + 1) (n + 1) Γ2 M2 → AL X Y Γ2 M2 → M2.1 ≤ M.1 + 19 → M2.2.1 ≤ M.2.1 + 2600 → Wm d 291 1453 (lsn X Y n) [] M2 Q) : Wm d 291 840 (lsn X Y n) [] M Q := by
  refine m_aload (i := 1) (show decode (mcode 291) 840 = _ by decide +kernel) rfl ?_
  refine law_ld (j := 1) hI h6 hL (by decide) rfl rfl (show decode (mcode 291) 841 = _ by decide +kernel) (show decode (mcode 291) 842 = _ by decide +kernel) (show decode (mcode 291) 843 = _ by decide +kernel) (show decode (mcode 291) 844 = _ by decide +kernel) (show decode (mcode 291) 845 = _ by decide +kernel) ?_
  refine law_X (na := 1) (t := t_k140) (ρ := rl [0, scr L xs (6 * n + 1)]) [vi (scr L xs (6 * n + 1))] [] (fun g => KOKx_of (k_k140 g)) (by decide +kernel) hI (preX_ok (by decide +kernel) (by omega) hI) hd (BO_rl ⟨⟨by decide, by decide⟩, scr_b, trivial⟩) ⟨⟨rfl, hI.2.2.2.2.2.1, by decide⟩, ar1 (i := 1), trivial⟩ (show decode (mcode 291) 846 = _ by decide +kernel) (show pool (mcls 291) 108 = _ by decide +kernel) rfl (by decide +kernel) (by decide +kernel) (by decide +kernel) (Nat.le_of_ble_eq_true rfl) (fun r1 Γ1 M1 hI1 a1 b1 R1 F1 G1 _ => ?_)
  have A1 := AL_keep (t := t_k140) (by decide +kernel) hI hI1 F1 G1 hA
  obtain ⟨x1, rfl⟩ := res_i (by decide) R1
  refine m_pop (show decode (mcode 291) 849 = _ by decide +kernel) rfl ?_
  refine m_aload (i := 2) (show decode (mcode 291) 850 = _ by decide +kernel) rfl ?_
  refine law_ld (j := 1) hI1 h6 hL (by decide) rfl rfl (show decode (mcode 291) 851 = _ by decide +kernel) (show decode (mcode 291) 852 = _ by decide +kernel) (show decode (mcode 291) 853 = _ by decide +kernel) (show decode (mcode 291) 854 = _ by decide +kernel) (show decode (mcode 291) 855 = _ by decide +kernel) ?_
  refine law_Y (na := 1) (t := t_k258) (ρ := rl [0, scr L xs (6 * n + 1)]) [vi (scr L xs (6 * n + 1))] [] (fun g => KOKx_of (k_k258 g)) (by decide +kernel) hI1 (preY_ok (by decide +kernel) (by omega) hI1) hd (BO_rl ⟨⟨by decide, by decide⟩, scr_b, trivial⟩) ⟨⟨rfl, hI1.2.2.2.2.2.2.1, by decide⟩, ar1 (i := 1), trivial⟩ (show decode (mcode 291) 856 = _ by decide +kernel) (show pool (mcls 291) 111 = _ by decide +kernel) rfl (by decide +kernel) (by decide +kernel) (by decide +kernel) (Nat.le_of_ble_eq_true rfl) (fun r2 Γ2 M2 hI2 a2 b2 R2 F2 G2 _ => ?_)
  have A2 := AL_keep (t := t_k258) (by decide +kernel) hI1 hI2 F2 G2 A1
  obtain ⟨x2, rfl⟩ := res_i (by decide) R2
  refine m_pop (show decode (mcode 291) 859 = _ by decide +kernel) rfl ?_
  exact m_goto (off := 593) 1453 (show decode (mcode 291) 860 = _ by decide +kernel) (by decide) (kk Γ2 M2 hI2 A2 (by omega) (by omega))
set_option maxRecDepth 100000 in
theorem law_c23 {d L : Nat} {xs : Nat → Int32} {X Y n : Nat} {Γ : Nat → Nat} {M : MM} {Q : Option MV → MM → Prop} (hd : 20 ≤ d) (hI : INV L xs X Y n n Γ M) (hA : AL X Y Γ M) (hn : n ≤ 512) (h6 : 6 * n + 6 ≤ L) (hL : L ≤ 3072) (kk : ∀ Γ2 M2, INV L xs X Y (n + 1) (n + 1) Γ2 M2 → AL X Y Γ2 M2 → M2.1 ≤ M.1 + 19 → M2.2.1 ≤ M.2.1 + 2600 → Wm d 291 1453 (lsn X Y n) [] M2 Q) : Wm d 291 863 (lsn X Y n) [] M Q := by
  refine m_aload (i := 1) (show decode (mcode 291) 863 = _ by decide +kernel) rfl ?_
  refine law_ld (j := 1) hI h6 hL (by decide) rfl rfl (show decode (mcode 291) 864 = _ by decide +kernel) (show decode (mcode 291) 865 = _ by decide +kernel) (show decode (mcode 291) 866 = _ by decide +kernel) (show decode (mcode 291) 867 = _ by decide +kernel) (show decode (mcode 291) 868 = _ by decide +kernel) ?_
  refine law_ld (j := 2) hI h6 hL (by decide) rfl rfl (show decode (mcode 291) 869 = _ by decide +kernel) (show decode (mcode 291) 870 = _ by decide +kernel) (show decode (mcode 291) 871 = _ by decide +kernel) (show decode (mcode 291) 872 = _ by decide +kernel) (show decode (mcode 291) 873 = _ by decide +kernel) ?_
  refine law_X (na := 2) (t := t_k141) (ρ := rl [0, scr L xs (6 * n + 1), scr L xs (6 * n + 2)]) [vi (scr L xs (6 * n + 1)), vi (scr L xs (6 * n + 2))] [] (fun g => KOKx_of (k_k141 g)) (by decide +kernel) hI (preX_ok (by decide +kernel) (by omega) hI) hd (BO_rl ⟨⟨by decide, by decide⟩, scr_b, scr_b, trivial⟩) ⟨⟨rfl, hI.2.2.2.2.2.1, by decide⟩, ar1 (i := 1), ar1 (i := 2), trivial⟩ (show decode (mcode 291) 874 = _ by decide +kernel) (show pool (mcls 291) 112 = _ by decide +kernel) rfl (by decide +kernel) (by decide +kernel) (by decide +kernel) (Nat.le_of_ble_eq_true rfl) (fun r1 Γ1 M1 hI1 a1 b1 R1 F1 G1 _ => ?_)
  have A1 := AL_keep (t := t_k141) (by decide +kernel) hI hI1 F1 G1 hA
  obtain ⟨x1, rfl⟩ := res_i (by decide) R1
  refine m_pop (show decode (mcode 291) 877 = _ by decide +kernel) rfl ?_
  refine m_aload (i := 2) (show decode (mcode 291) 878 = _ by decide +kernel) rfl ?_
  refine law_ld (j := 1) hI1 h6 hL (by decide) rfl rfl (show decode (mcode 291) 879 = _ by decide +kernel) (show decode (mcode 291) 880 = _ by decide +kernel) (show decode (mcode 291) 881 = _ by decide +kernel) (show decode (mcode 291) 882 = _ by decide +kernel) (show decode (mcode 291) 883 = _ by decide +kernel) ?_
  refine law_ld (j := 2) hI1 h6 hL (by decide) rfl rfl (show decode (mcode 291) 884 = _ by decide +kernel) (show decode (mcode 291) 885 = _ by decide +kernel) (show decode (mcode 291) 886 = _ by decide +kernel) (show decode (mcode 291) 887 = _ by decide +kernel) (show decode (mcode 291) 888 = _ by decide +kernel) ?_
  refine law_Y (na := 2) (t := t_k259) (ρ := rl [0, scr L xs (6 * n + 1), scr L xs (6 * n + 2)]) [vi (scr L xs (6 * n + 1)), vi (scr L xs (6 * n + 2))] [] (fun g => KOKx_of (k_k259 g)) (by decide +kernel) hI1 (preY_ok (by decide +kernel) (by omega) hI1) hd (BO_rl ⟨⟨by decide, by decide⟩, scr_b, scr_b, trivial⟩) ⟨⟨rfl, hI1.2.2.2.2.2.2.1, by decide⟩, ar1 (i := 1), ar1 (i := 2), trivial⟩ (show decode (mcode 291) 889 = _ by decide +kernel) (show pool (mcls 291) 115 = _ by decide +kernel) rfl (by decide +kernel) (by decide +kernel) (by decide +kernel) (Nat.le_of_ble_eq_true rfl) (fun r2 Γ2 M2 hI2 a2 b2 R2 F2 G2 _ => ?_)
  have A2 := AL_keep (t := t_k259) (by decide +kernel) hI1 hI2 F2 G2 A1
  obtain ⟨x2, rfl⟩ := res_i (by decide) R2
  refine m_pop (show decode (mcode 291) 892 = _ by decide +kernel) rfl ?_
  exact m_goto (off := 560) 1453 (show decode (mcode 291) 893 = _ by decide +kernel) (by decide) (kk Γ2 M2 hI2 A2 (by omega) (by omega))
set_option maxRecDepth 100000 in
theorem law_c24 {d L : Nat} {xs : Nat → Int32} {X Y n : Nat} {Γ : Nat → Nat} {M : MM} {Q : Option MV → MM → Prop} (hd : 20 ≤ d) (hI : INV L xs X Y n n Γ M) (hA : AL X Y Γ M) (hn : n ≤ 512) (h6 : 6 * n + 6 ≤ L) (hL : L ≤ 3072) (kk : ∀ Γ2 M2, INV L xs X Y (n + 1) (n + 1) Γ2 M2 → AL X Y Γ2 M2 → M2.1 ≤ M.1 + 19 → M2.2.1 ≤ M.2.1 + 2600 → Wm d 291 1453 (lsn X Y n) [] M2 Q) : Wm d 291 896 (lsn X Y n) [] M Q := by
  refine m_aload (i := 1) (show decode (mcode 291) 896 = _ by decide +kernel) rfl ?_
  refine law_ld (j := 1) hI h6 hL (by decide) rfl rfl (show decode (mcode 291) 897 = _ by decide +kernel) (show decode (mcode 291) 898 = _ by decide +kernel) (show decode (mcode 291) 899 = _ by decide +kernel) (show decode (mcode 291) 900 = _ by decide +kernel) (show decode (mcode 291) 901 = _ by decide +kernel) ?_
  refine law_ld (j := 2) hI h6 hL (by decide) rfl rfl (show decode (mcode 291) 902 = _ by decide +kernel) (show decode (mcode 291) 903 = _ by decide +kernel) (show decode (mcode 291) 904 = _ by decide +kernel) (show decode (mcode 291) 905 = _ by decide +kernel) (show decode (mcode 291) 906 = _ by decide +kernel) ?_
  refine law_X (na := 2) (t := t_k142) (ρ := rl [0, scr L xs (6 * n + 1), scr L xs (6 * n + 2)]) [vi (scr L xs (6 * n + 1)), vi (scr L xs (6 * n + 2))] [] (fun g => KOKx_of (k_k142 g)) (by decide +kernel) hI (preX_ok (by decide +kernel) (by omega) hI) hd (BO_rl ⟨⟨by decide, by decide⟩, scr_b, scr_b, trivial⟩) ⟨⟨rfl, hI.2.2.2.2.2.1, by decide⟩, ar1 (i := 1), ar1 (i := 2), trivial⟩ (show decode (mcode 291) 907 = _ by decide +kernel) (show pool (mcls 291) 116 = _ by decide +kernel) rfl (by decide +kernel) (by decide +kernel) (by decide +kernel) (Nat.le_of_ble_eq_true rfl) (fun r1 Γ1 M1 hI1 a1 b1 R1 F1 G1 _ => ?_)
  have A1 := AL_keep (t := t_k142) (by decide +kernel) hI hI1 F1 G1 hA
  obtain ⟨x1, rfl⟩ := res_i (by decide) R1
  refine m_pop (show decode (mcode 291) 910 = _ by decide +kernel) rfl ?_
  refine m_aload (i := 2) (show decode (mcode 291) 911 = _ by decide +kernel) rfl ?_
  refine law_ld (j := 1) hI1 h6 hL (by decide) rfl rfl (show decode (mcode 291) 912 = _ by decide +kernel) (show decode (mcode 291) 913 = _ by decide +kernel) (show decode (mcode 291) 914 = _ by decide +kernel) (show decode (mcode 291) 915 = _ by decide +kernel) (show decode (mcode 291) 916 = _ by decide +kernel) ?_
  refine law_ld (j := 2) hI1 h6 hL (by decide) rfl rfl (show decode (mcode 291) 917 = _ by decide +kernel) (show decode (mcode 291) 918 = _ by decide +kernel) (show decode (mcode 291) 919 = _ by decide +kernel) (show decode (mcode 291) 920 = _ by decide +kernel) (show decode (mcode 291) 921 = _ by decide +kernel) ?_
  refine law_Y (na := 2) (t := t_k260) (ρ := rl [0, scr L xs (6 * n + 1), scr L xs (6 * n + 2)]) [vi (scr L xs (6 * n + 1)), vi (scr L xs (6 * n + 2))] [] (fun g => KOKx_of (k_k260 g)) (by decide +kernel) hI1 (preY_ok (by decide +kernel) (by omega) hI1) hd (BO_rl ⟨⟨by decide, by decide⟩, scr_b, scr_b, trivial⟩) ⟨⟨rfl, hI1.2.2.2.2.2.2.1, by decide⟩, ar1 (i := 1), ar1 (i := 2), trivial⟩ (show decode (mcode 291) 922 = _ by decide +kernel) (show pool (mcls 291) 119 = _ by decide +kernel) rfl (by decide +kernel) (by decide +kernel) (by decide +kernel) (Nat.le_of_ble_eq_true rfl) (fun r2 Γ2 M2 hI2 a2 b2 R2 F2 G2 _ => ?_)
  have A2 := AL_keep (t := t_k260) (by decide +kernel) hI1 hI2 F2 G2 A1
  obtain ⟨x2, rfl⟩ := res_i (by decide) R2
  refine m_pop (show decode (mcode 291) 925 = _ by decide +kernel) rfl ?_
  exact m_goto (off := 527) 1453 (show decode (mcode 291) 926 = _ by decide +kernel) (by decide) (kk Γ2 M2 hI2 A2 (by omega) (by omega))
set_option maxRecDepth 100000 in
theorem law_c25 {d L : Nat} {xs : Nat → Int32} {X Y n : Nat} {Γ : Nat → Nat} {M : MM} {Q : Option MV → MM → Prop} (hd : 20 ≤ d) (hI : INV L xs X Y n n Γ M) (hA : AL X Y Γ M) (hn : n ≤ 512) (h6 : 6 * n + 6 ≤ L) (hL : L ≤ 3072) (kk : ∀ Γ2 M2, INV L xs X Y (n + 1) (n + 1) Γ2 M2 → AL X Y Γ2 M2 → M2.1 ≤ M.1 + 19 → M2.2.1 ≤ M.2.1 + 2600 → Wm d 291 1453 (lsn X Y n) [] M2 Q) : Wm d 291 929 (lsn X Y n) [] M Q := by
  refine m_aload (i := 1) (show decode (mcode 291) 929 = _ by decide +kernel) rfl ?_
  refine law_ld (j := 1) hI h6 hL (by decide) rfl rfl (show decode (mcode 291) 930 = _ by decide +kernel) (show decode (mcode 291) 931 = _ by decide +kernel) (show decode (mcode 291) 932 = _ by decide +kernel) (show decode (mcode 291) 933 = _ by decide +kernel) (show decode (mcode 291) 934 = _ by decide +kernel) ?_
  refine law_ld (j := 2) hI h6 hL (by decide) rfl rfl (show decode (mcode 291) 935 = _ by decide +kernel) (show decode (mcode 291) 936 = _ by decide +kernel) (show decode (mcode 291) 937 = _ by decide +kernel) (show decode (mcode 291) 938 = _ by decide +kernel) (show decode (mcode 291) 939 = _ by decide +kernel) ?_
  refine law_X (na := 2) (t := t_k144) (ρ := rl [0, scr L xs (6 * n + 1), scr L xs (6 * n + 2)]) [vi (scr L xs (6 * n + 1)), vi (scr L xs (6 * n + 2))] [] (fun g => KOKx_of (k_k144 g)) (by decide +kernel) hI (preX_ok (by decide +kernel) (by omega) hI) hd (BO_rl ⟨⟨by decide, by decide⟩, scr_b, scr_b, trivial⟩) ⟨⟨rfl, hI.2.2.2.2.2.1, by decide⟩, ar1 (i := 1), ar1 (i := 2), trivial⟩ (show decode (mcode 291) 940 = _ by decide +kernel) (show pool (mcls 291) 120 = _ by decide +kernel) rfl (by decide +kernel) (by decide +kernel) (by decide +kernel) (Nat.le_of_ble_eq_true rfl) (fun r1 Γ1 M1 hI1 a1 b1 R1 F1 G1 _ => ?_)
  have A1 := AL_keep (t := t_k144) (by decide +kernel) hI hI1 F1 G1 hA
  obtain ⟨x1, rfl⟩ := res_i (by decide) R1
  refine m_pop (show decode (mcode 291) 943 = _ by decide +kernel) rfl ?_
  refine m_aload (i := 2) (show decode (mcode 291) 944 = _ by decide +kernel) rfl ?_
  refine law_ld (j := 1) hI1 h6 hL (by decide) rfl rfl (show decode (mcode 291) 945 = _ by decide +kernel) (show decode (mcode 291) 946 = _ by decide +kernel) (show decode (mcode 291) 947 = _ by decide +kernel) (show decode (mcode 291) 948 = _ by decide +kernel) (show decode (mcode 291) 949 = _ by decide +kernel) ?_
  refine law_ld (j := 2) hI1 h6 hL (by decide) rfl rfl (show decode (mcode 291) 950 = _ by decide +kernel) (show decode (mcode 291) 951 = _ by decide +kernel) (show decode (mcode 291) 952 = _ by decide +kernel) (show decode (mcode 291) 953 = _ by decide +kernel) (show decode (mcode 291) 954 = _ by decide +kernel) ?_
  refine law_Y (na := 2) (t := t_k263) (ρ := rl [0, scr L xs (6 * n + 1), scr L xs (6 * n + 2)]) [vi (scr L xs (6 * n + 1)), vi (scr L xs (6 * n + 2))] [] (fun g => KOKx_of (k_k263 g)) (by decide +kernel) hI1 (preY_ok (by decide +kernel) (by omega) hI1) hd (BO_rl ⟨⟨by decide, by decide⟩, scr_b, scr_b, trivial⟩) ⟨⟨rfl, hI1.2.2.2.2.2.2.1, by decide⟩, ar1 (i := 1), ar1 (i := 2), trivial⟩ (show decode (mcode 291) 955 = _ by decide +kernel) (show pool (mcls 291) 123 = _ by decide +kernel) rfl (by decide +kernel) (by decide +kernel) (by decide +kernel) (Nat.le_of_ble_eq_true rfl) (fun r2 Γ2 M2 hI2 a2 b2 R2 F2 G2 _ => ?_)
  have A2 := AL_keep (t := t_k263) (by decide +kernel) hI1 hI2 F2 G2 A1
  obtain ⟨x2, rfl⟩ := res_i (by decide) R2
  refine m_pop (show decode (mcode 291) 958 = _ by decide +kernel) rfl ?_
  exact m_goto (off := 494) 1453 (show decode (mcode 291) 959 = _ by decide +kernel) (by decide) (kk Γ2 M2 hI2 A2 (by omega) (by omega))
set_option maxRecDepth 100000 in
theorem law_c26 {d L : Nat} {xs : Nat → Int32} {X Y n : Nat} {Γ : Nat → Nat} {M : MM} {Q : Option MV → MM → Prop} (hd : 20 ≤ d) (hI : INV L xs X Y n n Γ M) (hA : AL X Y Γ M) (hn : n ≤ 512) (h6 : 6 * n + 6 ≤ L) (hL : L ≤ 3072) (kk : ∀ Γ2 M2, INV L xs X Y (n + 1) (n + 1) Γ2 M2 → AL X Y Γ2 M2 → M2.1 ≤ M.1 + 19 → M2.2.1 ≤ M.2.1 + 2600 → Wm d 291 1453 (lsn X Y n) [] M2 Q) : Wm d 291 962 (lsn X Y n) [] M Q := by
  refine m_aload (i := 1) (show decode (mcode 291) 962 = _ by decide +kernel) rfl ?_
  refine law_ld (j := 1) hI h6 hL (by decide) rfl rfl (show decode (mcode 291) 963 = _ by decide +kernel) (show decode (mcode 291) 964 = _ by decide +kernel) (show decode (mcode 291) 965 = _ by decide +kernel) (show decode (mcode 291) 966 = _ by decide +kernel) (show decode (mcode 291) 967 = _ by decide +kernel) ?_
  refine law_ld (j := 2) hI h6 hL (by decide) rfl rfl (show decode (mcode 291) 968 = _ by decide +kernel) (show decode (mcode 291) 969 = _ by decide +kernel) (show decode (mcode 291) 970 = _ by decide +kernel) (show decode (mcode 291) 971 = _ by decide +kernel) (show decode (mcode 291) 972 = _ by decide +kernel) ?_
  refine law_ld (j := 3) hI h6 hL (by decide) rfl rfl (show decode (mcode 291) 973 = _ by decide +kernel) (show decode (mcode 291) 974 = _ by decide +kernel) (show decode (mcode 291) 975 = _ by decide +kernel) (show decode (mcode 291) 976 = _ by decide +kernel) (show decode (mcode 291) 977 = _ by decide +kernel) ?_
  refine law_X (na := 3) (t := t_k145) (ρ := rl [0, scr L xs (6 * n + 1), scr L xs (6 * n + 2), scr L xs (6 * n + 3)]) [vi (scr L xs (6 * n + 1)), vi (scr L xs (6 * n + 2)), vi (scr L xs (6 * n + 3))] [] (fun g => KOKx_of (k_k145 g)) (by decide +kernel) hI (preX_ok (by decide +kernel) (by omega) hI) hd (BO_rl ⟨⟨by decide, by decide⟩, scr_b, scr_b, scr_b, trivial⟩) ⟨⟨rfl, hI.2.2.2.2.2.1, by decide⟩, ar1 (i := 1), ar1 (i := 2), ar1 (i := 3), trivial⟩ (show decode (mcode 291) 978 = _ by decide +kernel) (show pool (mcls 291) 124 = _ by decide +kernel) rfl (by decide +kernel) (by decide +kernel) (by decide +kernel) (Nat.le_of_ble_eq_true rfl) (fun r1 Γ1 M1 hI1 a1 b1 R1 F1 G1 _ => ?_)
  have A1 := AL_keep (t := t_k145) (by decide +kernel) hI hI1 F1 G1 hA
  obtain ⟨x1, rfl⟩ := res_i (by decide) R1
  refine m_pop (show decode (mcode 291) 981 = _ by decide +kernel) rfl ?_
  refine m_aload (i := 2) (show decode (mcode 291) 982 = _ by decide +kernel) rfl ?_
  refine law_ld (j := 1) hI1 h6 hL (by decide) rfl rfl (show decode (mcode 291) 983 = _ by decide +kernel) (show decode (mcode 291) 984 = _ by decide +kernel) (show decode (mcode 291) 985 = _ by decide +kernel) (show decode (mcode 291) 986 = _ by decide +kernel) (show decode (mcode 291) 987 = _ by decide +kernel) ?_
  refine law_ld (j := 2) hI1 h6 hL (by decide) rfl rfl (show decode (mcode 291) 988 = _ by decide +kernel) (show decode (mcode 291) 989 = _ by decide +kernel) (show decode (mcode 291) 990 = _ by decide +kernel) (show decode (mcode 291) 991 = _ by decide +kernel) (show decode (mcode 291) 992 = _ by decide +kernel) ?_
  refine law_ld (j := 3) hI1 h6 hL (by decide) rfl rfl (show decode (mcode 291) 993 = _ by decide +kernel) (show decode (mcode 291) 994 = _ by decide +kernel) (show decode (mcode 291) 995 = _ by decide +kernel) (show decode (mcode 291) 996 = _ by decide +kernel) (show decode (mcode 291) 997 = _ by decide +kernel) ?_
  refine law_Y (na := 3) (t := t_k242) (ρ := rl [0, scr L xs (6 * n + 1), scr L xs (6 * n + 2), scr L xs (6 * n + 3)]) [vi (scr L xs (6 * n + 1)), vi (scr L xs (6 * n + 2)), vi (scr L xs (6 * n + 3))] [] (fun g => KOKx_of (k_k242 g)) (by decide +kernel) hI1 (preY_ok (by decide +kernel) (by omega) hI1) hd (BO_rl ⟨⟨by decide, by decide⟩, scr_b, scr_b, scr_b, trivial⟩) ⟨⟨rfl, hI1.2.2.2.2.2.2.1, by decide⟩, ar1 (i := 1), ar1 (i := 2), ar1 (i := 3), trivial⟩ (show decode (mcode 291) 998 = _ by decide +kernel) (show pool (mcls 291) 128 = _ by decide +kernel) rfl (by decide +kernel) (by decide +kernel) (by decide +kernel) (Nat.le_of_ble_eq_true rfl) (fun r2 Γ2 M2 hI2 a2 b2 R2 F2 G2 _ => ?_)
  have A2 := AL_keep (t := t_k242) (by decide +kernel) hI1 hI2 F2 G2 A1
  obtain ⟨x2, rfl⟩ := res_i (by decide) R2
  refine m_pop (show decode (mcode 291) 1001 = _ by decide +kernel) rfl ?_
  exact m_goto (off := 451) 1453 (show decode (mcode 291) 1002 = _ by decide +kernel) (by decide) (kk Γ2 M2 hI2 A2 (by omega) (by omega))
set_option maxRecDepth 100000 in
theorem law_c27 {d L : Nat} {xs : Nat → Int32} {X Y n : Nat} {Γ : Nat → Nat} {M : MM} {Q : Option MV → MM → Prop} (hd : 20 ≤ d) (hI : INV L xs X Y n n Γ M) (hA : AL X Y Γ M) (hn : n ≤ 512) (h6 : 6 * n + 6 ≤ L) (hL : L ≤ 3072) (kk : ∀ Γ2 M2, INV L xs X Y (n + 1) (n + 1) Γ2 M2 → AL X Y Γ2 M2 → M2.1 ≤ M.1 + 19 → M2.2.1 ≤ M.2.1 + 2600 → Wm d 291 1453 (lsn X Y n) [] M2 Q) : Wm d 291 1005 (lsn X Y n) [] M Q := by
  refine m_aload (i := 1) (show decode (mcode 291) 1005 = _ by decide +kernel) rfl ?_
  refine law_ld (j := 1) hI h6 hL (by decide) rfl rfl (show decode (mcode 291) 1006 = _ by decide +kernel) (show decode (mcode 291) 1007 = _ by decide +kernel) (show decode (mcode 291) 1008 = _ by decide +kernel) (show decode (mcode 291) 1009 = _ by decide +kernel) (show decode (mcode 291) 1010 = _ by decide +kernel) ?_
  refine law_ld (j := 2) hI h6 hL (by decide) rfl rfl (show decode (mcode 291) 1011 = _ by decide +kernel) (show decode (mcode 291) 1012 = _ by decide +kernel) (show decode (mcode 291) 1013 = _ by decide +kernel) (show decode (mcode 291) 1014 = _ by decide +kernel) (show decode (mcode 291) 1015 = _ by decide +kernel) ?_
  refine law_ld (j := 3) hI h6 hL (by decide) rfl rfl (show decode (mcode 291) 1016 = _ by decide +kernel) (show decode (mcode 291) 1017 = _ by decide +kernel) (show decode (mcode 291) 1018 = _ by decide +kernel) (show decode (mcode 291) 1019 = _ by decide +kernel) (show decode (mcode 291) 1020 = _ by decide +kernel) ?_
  refine law_ld (j := 4) hI h6 hL (by decide) rfl rfl (show decode (mcode 291) 1021 = _ by decide +kernel) (show decode (mcode 291) 1022 = _ by decide +kernel) (show decode (mcode 291) 1023 = _ by decide +kernel) (show decode (mcode 291) 1024 = _ by decide +kernel) (show decode (mcode 291) 1025 = _ by decide +kernel) ?_
  refine law_X (na := 4) (t := t_k143) (ρ := rl [0, scr L xs (6 * n + 1), scr L xs (6 * n + 2), scr L xs (6 * n + 3), scr L xs (6 * n + 4)]) [vi (scr L xs (6 * n + 1)), vi (scr L xs (6 * n + 2)), vi (scr L xs (6 * n + 3)), vi (scr L xs (6 * n + 4))] [] (fun g => KOKx_of (k_k143 g)) (by decide +kernel) hI (preX_ok (by decide +kernel) (by omega) hI) hd (BO_rl ⟨⟨by decide, by decide⟩, scr_b, scr_b, scr_b, scr_b, trivial⟩) ⟨⟨rfl, hI.2.2.2.2.2.1, by decide⟩, ar1 (i := 1), ar1 (i := 2), ar1 (i := 3), ar1 (i := 4), trivial⟩ (show decode (mcode 291) 1026 = _ by decide +kernel) (show pool (mcls 291) 129 = _ by decide +kernel) rfl (by decide +kernel) (by decide +kernel) (by decide +kernel) (Nat.le_of_ble_eq_true rfl) (fun r1 Γ1 M1 hI1 a1 b1 R1 F1 G1 _ => ?_)
  have A1 := AL_keep (t := t_k143) (by decide +kernel) hI hI1 F1 G1 hA
  obtain ⟨x1, rfl⟩ := res_i (by decide) R1
  refine m_pop (show decode (mcode 291) 1029 = _ by decide +kernel) rfl ?_
  refine m_aload (i := 2) (show decode (mcode 291) 1030 = _ by decide +kernel) rfl ?_
  refine law_ld (j := 1) hI1 h6 hL (by decide) rfl rfl (show decode (mcode 291) 1031 = _ by decide +kernel) (show decode (mcode 291) 1032 = _ by decide +kernel) (show decode (mcode 291) 1033 = _ by decide +kernel) (show decode (mcode 291) 1034 = _ by decide +kernel) (show decode (mcode 291) 1035 = _ by decide +kernel) ?_
  refine law_ld (j := 2) hI1 h6 hL (by decide) rfl rfl (show decode (mcode 291) 1036 = _ by decide +kernel) (show decode (mcode 291) 1037 = _ by decide +kernel) (show decode (mcode 291) 1038 = _ by decide +kernel) (show decode (mcode 291) 1039 = _ by decide +kernel) (show decode (mcode 291) 1040 = _ by decide +kernel) ?_
  refine law_ld (j := 3) hI1 h6 hL (by decide) rfl rfl (show decode (mcode 291) 1041 = _ by decide +kernel) (show decode (mcode 291) 1042 = _ by decide +kernel) (show decode (mcode 291) 1043 = _ by decide +kernel) (show decode (mcode 291) 1044 = _ by decide +kernel) (show decode (mcode 291) 1045 = _ by decide +kernel) ?_
  refine law_ld (j := 4) hI1 h6 hL (by decide) rfl rfl (show decode (mcode 291) 1046 = _ by decide +kernel) (show decode (mcode 291) 1047 = _ by decide +kernel) (show decode (mcode 291) 1048 = _ by decide +kernel) (show decode (mcode 291) 1049 = _ by decide +kernel) (show decode (mcode 291) 1050 = _ by decide +kernel) ?_
  refine law_Y (na := 4) (t := t_k264) (ρ := rl [0, scr L xs (6 * n + 1), scr L xs (6 * n + 2), scr L xs (6 * n + 3), scr L xs (6 * n + 4)]) [vi (scr L xs (6 * n + 1)), vi (scr L xs (6 * n + 2)), vi (scr L xs (6 * n + 3)), vi (scr L xs (6 * n + 4))] [] (fun g => KOKx_of (k_k264 g)) (by decide +kernel) hI1 (preY_ok (by decide +kernel) (by omega) hI1) hd (BO_rl ⟨⟨by decide, by decide⟩, scr_b, scr_b, scr_b, scr_b, trivial⟩) ⟨⟨rfl, hI1.2.2.2.2.2.2.1, by decide⟩, ar1 (i := 1), ar1 (i := 2), ar1 (i := 3), ar1 (i := 4), trivial⟩ (show decode (mcode 291) 1051 = _ by decide +kernel) (show pool (mcls 291) 133 = _ by decide +kernel) rfl (by decide +kernel) (by decide +kernel) (by decide +kernel) (Nat.le_of_ble_eq_true rfl) (fun r2 Γ2 M2 hI2 a2 b2 R2 F2 G2 _ => ?_)
  have A2 := AL_keep (t := t_k264) (by decide +kernel) hI1 hI2 F2 G2 A1
  obtain ⟨x2, rfl⟩ := res_i (by decide) R2
  refine m_pop (show decode (mcode 291) 1054 = _ by decide +kernel) rfl ?_
  exact m_goto (off := 398) 1453 (show decode (mcode 291) 1055 = _ by decide +kernel) (by decide) (kk Γ2 M2 hI2 A2 (by omega) (by omega))
set_option maxRecDepth 100000 in
theorem law_c28 {d L : Nat} {xs : Nat → Int32} {X Y n : Nat} {Γ : Nat → Nat} {M : MM} {Q : Option MV → MM → Prop} (hd : 20 ≤ d) (hI : INV L xs X Y n n Γ M) (hA : AL X Y Γ M) (hn : n ≤ 512) (h6 : 6 * n + 6 ≤ L) (hL : L ≤ 3072) (kk : ∀ Γ2 M2, INV L xs X Y (n + 1) (n + 1) Γ2 M2 → AL X Y Γ2 M2 → M2.1 ≤ M.1 + 19 → M2.2.1 ≤ M.2.1 + 2600 → Wm d 291 1453 (lsn X Y n) [] M2 Q) : Wm d 291 1058 (lsn X Y n) [] M Q := by
  refine m_aload (i := 1) (show decode (mcode 291) 1058 = _ by decide +kernel) rfl ?_
  refine law_ld (j := 1) hI h6 hL (by decide) rfl rfl (show decode (mcode 291) 1059 = _ by decide +kernel) (show decode (mcode 291) 1060 = _ by decide +kernel) (show decode (mcode 291) 1061 = _ by decide +kernel) (show decode (mcode 291) 1062 = _ by decide +kernel) (show decode (mcode 291) 1063 = _ by decide +kernel) ?_
  refine law_X (na := 1) (t := t_k146) (ρ := rl [0, scr L xs (6 * n + 1)]) [vi (scr L xs (6 * n + 1))] [] (fun g => KOKx_of (k_k146 g)) (by decide +kernel) hI (preX_ok (by decide +kernel) (by omega) hI) hd (BO_rl ⟨⟨by decide, by decide⟩, scr_b, trivial⟩) ⟨⟨rfl, hI.2.2.2.2.2.1, by decide⟩, ar1 (i := 1), trivial⟩ (show decode (mcode 291) 1064 = _ by decide +kernel) (show pool (mcls 291) 134 = _ by decide +kernel) rfl (by decide +kernel) (by decide +kernel) (by decide +kernel) (Nat.le_of_ble_eq_true rfl) (fun r1 Γ1 M1 hI1 a1 b1 R1 F1 G1 _ => ?_)
  have A1 := AL_keep (t := t_k146) (by decide +kernel) hI hI1 F1 G1 hA
  obtain ⟨x1, rfl⟩ := res_l (by decide) R1
  refine m_pop2 (show decode (mcode 291) 1067 = _ by decide +kernel) rfl ?_
  refine m_aload (i := 2) (show decode (mcode 291) 1068 = _ by decide +kernel) rfl ?_
  refine law_ld (j := 1) hI1 h6 hL (by decide) rfl rfl (show decode (mcode 291) 1069 = _ by decide +kernel) (show decode (mcode 291) 1070 = _ by decide +kernel) (show decode (mcode 291) 1071 = _ by decide +kernel) (show decode (mcode 291) 1072 = _ by decide +kernel) (show decode (mcode 291) 1073 = _ by decide +kernel) ?_
  refine law_Y (na := 1) (t := t_k265) (ρ := rl [0, scr L xs (6 * n + 1)]) [vi (scr L xs (6 * n + 1))] [] (fun g => KOKx_of (k_k265 g)) (by decide +kernel) hI1 (preY_ok (by decide +kernel) (by omega) hI1) hd (BO_rl ⟨⟨by decide, by decide⟩, scr_b, trivial⟩) ⟨⟨rfl, hI1.2.2.2.2.2.2.1, by decide⟩, ar1 (i := 1), trivial⟩ (show decode (mcode 291) 1074 = _ by decide +kernel) (show pool (mcls 291) 138 = _ by decide +kernel) rfl (by decide +kernel) (by decide +kernel) (by decide +kernel) (Nat.le_of_ble_eq_true rfl) (fun r2 Γ2 M2 hI2 a2 b2 R2 F2 G2 _ => ?_)
  have A2 := AL_keep (t := t_k265) (by decide +kernel) hI1 hI2 F2 G2 A1
  obtain ⟨x2, rfl⟩ := res_l (by decide) R2
  refine m_pop2 (show decode (mcode 291) 1077 = _ by decide +kernel) rfl ?_
  exact m_goto (off := 375) 1453 (show decode (mcode 291) 1078 = _ by decide +kernel) (by decide) (kk Γ2 M2 hI2 A2 (by omega) (by omega))
set_option maxRecDepth 100000 in
theorem law_c29 {d L : Nat} {xs : Nat → Int32} {X Y n : Nat} {Γ : Nat → Nat} {M : MM} {Q : Option MV → MM → Prop} (hd : 20 ≤ d) (hI : INV L xs X Y n n Γ M) (hA : AL X Y Γ M) (hn : n ≤ 512) (h6 : 6 * n + 6 ≤ L) (hL : L ≤ 3072) (kk : ∀ Γ2 M2, INV L xs X Y (n + 1) (n + 1) Γ2 M2 → AL X Y Γ2 M2 → M2.1 ≤ M.1 + 19 → M2.2.1 ≤ M.2.1 + 2600 → Wm d 291 1453 (lsn X Y n) [] M2 Q) : Wm d 291 1081 (lsn X Y n) [] M Q := by
  refine m_aload (i := 1) (show decode (mcode 291) 1081 = _ by decide +kernel) rfl ?_
  refine law_ld (j := 1) hI h6 hL (by decide) rfl rfl (show decode (mcode 291) 1082 = _ by decide +kernel) (show decode (mcode 291) 1083 = _ by decide +kernel) (show decode (mcode 291) 1084 = _ by decide +kernel) (show decode (mcode 291) 1085 = _ by decide +kernel) (show decode (mcode 291) 1086 = _ by decide +kernel) ?_
  refine law_ld (j := 2) hI h6 hL (by decide) rfl rfl (show decode (mcode 291) 1087 = _ by decide +kernel) (show decode (mcode 291) 1088 = _ by decide +kernel) (show decode (mcode 291) 1089 = _ by decide +kernel) (show decode (mcode 291) 1090 = _ by decide +kernel) (show decode (mcode 291) 1091 = _ by decide +kernel) ?_
  refine m_i2l (show decode (mcode 291) 1092 = _ by decide +kernel) ?_
  refine m_bipush (n := 32) (show decode (mcode 291) 1093 = _ by decide +kernel) ⟨by decide, by decide⟩ (by decide) ?_
  refine m_lshl (show decode (mcode 291) 1095 = _ by decide +kernel) (fun v714 => ?_)
  refine law_ld (j := 3) hI h6 hL (by decide) rfl rfl (show decode (mcode 291) 1096 = _ by decide +kernel) (show decode (mcode 291) 1097 = _ by decide +kernel) (show decode (mcode 291) 1098 = _ by decide +kernel) (show decode (mcode 291) 1099 = _ by decide +kernel) (show decode (mcode 291) 1100 = _ by decide +kernel) ?_
  refine m_i2l (show decode (mcode 291) 1101 = _ by decide +kernel) ?_
  refine m_ldc2 (x := 4294967295) (show decode (mcode 291) 1102 = _ by decide +kernel) (show csl (mcls 291) 139 = _ by decide +kernel) ⟨by decide, by decide⟩ ?_
  refine m_land (show decode (mcode 291) 1105 = _ by decide +kernel) (fun v722 => ?_)
  refine m_lor (show decode (mcode 291) 1106 = _ by decide +kernel) (fun v723 => ?_)
  refine law_X (na := 2) (t := t_k147) (ρ := rl [0, scr L xs (6 * n + 1), 0]) [vi (scr L xs (6 * n + 1)), vl v723] [] (fun g => KOKx_of (k_k147 g)) (by decide +kernel) hI (preX_ok (by decide +kernel) (by omega) hI) hd (BO_rl ⟨⟨by decide, by decide⟩, scr_b, ⟨by decide, by decide⟩, trivial⟩) ⟨⟨rfl, hI.2.2.2.2.2.1, by decide⟩, ar1 (i := 1), ⟨_, rfl, fun h => absurd h (by decide)⟩, trivial⟩ (show decode (mcode 291) 1107 = _ by decide +kernel) (show pool (mcls 291) 141 = _ by decide +kernel) rfl (by decide +kernel) (by decide +kernel) (by decide +kernel) (Nat.le_of_ble_eq_true rfl) (fun r1 Γ1 M1 hI1 a1 b1 R1 F1 G1 _ => ?_)
  have A1 := AL_keep (t := t_k147) (by decide +kernel) hI hI1 F1 G1 hA
  obtain ⟨x1, rfl⟩ := res_l (by decide) R1
  refine m_pop2 (show decode (mcode 291) 1110 = _ by decide +kernel) rfl ?_
  refine m_aload (i := 2) (show decode (mcode 291) 1111 = _ by decide +kernel) rfl ?_
  refine law_ld (j := 1) hI1 h6 hL (by decide) rfl rfl (show decode (mcode 291) 1112 = _ by decide +kernel) (show decode (mcode 291) 1113 = _ by decide +kernel) (show decode (mcode 291) 1114 = _ by decide +kernel) (show decode (mcode 291) 1115 = _ by decide +kernel) (show decode (mcode 291) 1116 = _ by decide +kernel) ?_
  refine law_ld (j := 2) hI1 h6 hL (by decide) rfl rfl (show decode (mcode 291) 1117 = _ by decide +kernel) (show decode (mcode 291) 1118 = _ by decide +kernel) (show decode (mcode 291) 1119 = _ by decide +kernel) (show decode (mcode 291) 1120 = _ by decide +kernel) (show decode (mcode 291) 1121 = _ by decide +kernel) ?_
  refine m_i2l (show decode (mcode 291) 1122 = _ by decide +kernel) ?_
  refine m_bipush (n := 32) (show decode (mcode 291) 1123 = _ by decide +kernel) ⟨by decide, by decide⟩ (by decide) ?_
  refine m_lshl (show decode (mcode 291) 1125 = _ by decide +kernel) (fun v739 => ?_)
  refine law_ld (j := 3) hI1 h6 hL (by decide) rfl rfl (show decode (mcode 291) 1126 = _ by decide +kernel) (show decode (mcode 291) 1127 = _ by decide +kernel) (show decode (mcode 291) 1128 = _ by decide +kernel) (show decode (mcode 291) 1129 = _ by decide +kernel) (show decode (mcode 291) 1130 = _ by decide +kernel) ?_
  refine m_i2l (show decode (mcode 291) 1131 = _ by decide +kernel) ?_
  refine m_ldc2 (x := 4294967295) (show decode (mcode 291) 1132 = _ by decide +kernel) (show csl (mcls 291) 139 = _ by decide +kernel) ⟨by decide, by decide⟩ ?_
  refine m_land (show decode (mcode 291) 1135 = _ by decide +kernel) (fun v747 => ?_)
  refine m_lor (show decode (mcode 291) 1136 = _ by decide +kernel) (fun v748 => ?_)
  refine law_Y (na := 2) (t := t_k266) (ρ := rl [0, scr L xs (6 * n + 1), 0]) [vi (scr L xs (6 * n + 1)), vl v748] [] (fun g => KOKx_of (k_k266 g)) (by decide +kernel) hI1 (preY_ok (by decide +kernel) (by omega) hI1) hd (BO_rl ⟨⟨by decide, by decide⟩, scr_b, ⟨by decide, by decide⟩, trivial⟩) ⟨⟨rfl, hI1.2.2.2.2.2.2.1, by decide⟩, ar1 (i := 1), ⟨_, rfl, fun h => absurd h (by decide)⟩, trivial⟩ (show decode (mcode 291) 1137 = _ by decide +kernel) (show pool (mcls 291) 145 = _ by decide +kernel) rfl (by decide +kernel) (by decide +kernel) (by decide +kernel) (Nat.le_of_ble_eq_true rfl) (fun r2 Γ2 M2 hI2 a2 b2 R2 F2 G2 _ => ?_)
  have A2 := AL_keep (t := t_k266) (by decide +kernel) hI1 hI2 F2 G2 A1
  obtain ⟨x2, rfl⟩ := res_l (by decide) R2
  refine m_pop2 (show decode (mcode 291) 1140 = _ by decide +kernel) rfl ?_
  exact m_goto (off := 312) 1453 (show decode (mcode 291) 1141 = _ by decide +kernel) (by decide) (kk Γ2 M2 hI2 A2 (by omega) (by omega))
set_option maxRecDepth 100000 in
theorem law_c30 {d L : Nat} {xs : Nat → Int32} {X Y n : Nat} {Γ : Nat → Nat} {M : MM} {Q : Option MV → MM → Prop} (hd : 20 ≤ d) (hI : INV L xs X Y n n Γ M) (hA : AL X Y Γ M) (hn : n ≤ 512) (h6 : 6 * n + 6 ≤ L) (hL : L ≤ 3072) (kk : ∀ Γ2 M2, INV L xs X Y (n + 1) (n + 1) Γ2 M2 → AL X Y Γ2 M2 → M2.1 ≤ M.1 + 19 → M2.2.1 ≤ M.2.1 + 2600 → Wm d 291 1453 (lsn X Y n) [] M2 Q) : Wm d 291 1144 (lsn X Y n) [] M Q := by
  refine m_aload (i := 1) (show decode (mcode 291) 1144 = _ by decide +kernel) rfl ?_
  refine law_ld (j := 1) hI h6 hL (by decide) rfl rfl (show decode (mcode 291) 1145 = _ by decide +kernel) (show decode (mcode 291) 1146 = _ by decide +kernel) (show decode (mcode 291) 1147 = _ by decide +kernel) (show decode (mcode 291) 1148 = _ by decide +kernel) (show decode (mcode 291) 1149 = _ by decide +kernel) ?_
  refine law_X (na := 1) (t := t_k148) (ρ := rl [0, scr L xs (6 * n + 1)]) [vi (scr L xs (6 * n + 1))] [] (fun g => KOKx_of (k_k148 g)) (by decide +kernel) hI (preX_ok (by decide +kernel) (by omega) hI) hd (BO_rl ⟨⟨by decide, by decide⟩, scr_b, trivial⟩) ⟨⟨rfl, hI.2.2.2.2.2.1, by decide⟩, ar1 (i := 1), trivial⟩ (show decode (mcode 291) 1150 = _ by decide +kernel) (show pool (mcls 291) 146 = _ by decide +kernel) rfl (by decide +kernel) (by decide +kernel) (by decide +kernel) (Nat.le_of_ble_eq_true rfl) (fun r1 Γ1 M1 hI1 a1 b1 R1 F1 G1 _ => ?_)
  have A1 := AL_keep (t := t_k148) (by decide +kernel) hI hI1 F1 G1 hA
  obtain ⟨x1, rfl⟩ := res_i (by decide) R1
  refine m_pop (show decode (mcode 291) 1153 = _ by decide +kernel) rfl ?_
  refine m_aload (i := 2) (show decode (mcode 291) 1154 = _ by decide +kernel) rfl ?_
  refine law_ld (j := 1) hI1 h6 hL (by decide) rfl rfl (show decode (mcode 291) 1155 = _ by decide +kernel) (show decode (mcode 291) 1156 = _ by decide +kernel) (show decode (mcode 291) 1157 = _ by decide +kernel) (show decode (mcode 291) 1158 = _ by decide +kernel) (show decode (mcode 291) 1159 = _ by decide +kernel) ?_
  refine law_Y (na := 1) (t := t_k268) (ρ := rl [0, scr L xs (6 * n + 1)]) [vi (scr L xs (6 * n + 1))] [] (fun g => KOKx_of (k_k268 g)) (by decide +kernel) hI1 (preY_ok (by decide +kernel) (by omega) hI1) hd (BO_rl ⟨⟨by decide, by decide⟩, scr_b, trivial⟩) ⟨⟨rfl, hI1.2.2.2.2.2.2.1, by decide⟩, ar1 (i := 1), trivial⟩ (show decode (mcode 291) 1160 = _ by decide +kernel) (show pool (mcls 291) 149 = _ by decide +kernel) rfl (by decide +kernel) (by decide +kernel) (by decide +kernel) (Nat.le_of_ble_eq_true rfl) (fun r2 Γ2 M2 hI2 a2 b2 R2 F2 G2 _ => ?_)
  have A2 := AL_keep (t := t_k268) (by decide +kernel) hI1 hI2 F2 G2 A1
  obtain ⟨x2, rfl⟩ := res_i (by decide) R2
  refine m_pop (show decode (mcode 291) 1163 = _ by decide +kernel) rfl ?_
  exact m_goto (off := 289) 1453 (show decode (mcode 291) 1164 = _ by decide +kernel) (by decide) (kk Γ2 M2 hI2 A2 (by omega) (by omega))
set_option maxRecDepth 100000 in
theorem law_c31 {d L : Nat} {xs : Nat → Int32} {X Y n : Nat} {Γ : Nat → Nat} {M : MM} {Q : Option MV → MM → Prop} (hd : 20 ≤ d) (hI : INV L xs X Y n n Γ M) (hA : AL X Y Γ M) (hn : n ≤ 512) (h6 : 6 * n + 6 ≤ L) (hL : L ≤ 3072) (kk : ∀ Γ2 M2, INV L xs X Y (n + 1) (n + 1) Γ2 M2 → AL X Y Γ2 M2 → M2.1 ≤ M.1 + 19 → M2.2.1 ≤ M.2.1 + 2600 → Wm d 291 1453 (lsn X Y n) [] M2 Q) : Wm d 291 1167 (lsn X Y n) [] M Q := by
  refine m_aload (i := 1) (show decode (mcode 291) 1167 = _ by decide +kernel) rfl ?_
  refine law_ld (j := 1) hI h6 hL (by decide) rfl rfl (show decode (mcode 291) 1168 = _ by decide +kernel) (show decode (mcode 291) 1169 = _ by decide +kernel) (show decode (mcode 291) 1170 = _ by decide +kernel) (show decode (mcode 291) 1171 = _ by decide +kernel) (show decode (mcode 291) 1172 = _ by decide +kernel) ?_
  refine law_ld (j := 2) hI h6 hL (by decide) rfl rfl (show decode (mcode 291) 1173 = _ by decide +kernel) (show decode (mcode 291) 1174 = _ by decide +kernel) (show decode (mcode 291) 1175 = _ by decide +kernel) (show decode (mcode 291) 1176 = _ by decide +kernel) (show decode (mcode 291) 1177 = _ by decide +kernel) ?_
  refine law_X (na := 2) (t := t_k149) (ρ := rl [0, scr L xs (6 * n + 1), scr L xs (6 * n + 2)]) [vi (scr L xs (6 * n + 1)), vi (scr L xs (6 * n + 2))] [] (fun g => KOKx_of (k_k149 g)) (by decide +kernel) hI (preX_ok (by decide +kernel) (by omega) hI) hd (BO_rl ⟨⟨by decide, by decide⟩, scr_b, scr_b, trivial⟩) ⟨⟨rfl, hI.2.2.2.2.2.1, by decide⟩, ar1 (i := 1), ar1 (i := 2), trivial⟩ (show decode (mcode 291) 1178 = _ by decide +kernel) (show pool (mcls 291) 150 = _ by decide +kernel) rfl (by decide +kernel) (by decide +kernel) (by decide +kernel) (Nat.le_of_ble_eq_true rfl) (fun r1 Γ1 M1 hI1 a1 b1 R1 F1 G1 _ => ?_)
  have A1 := AL_keep (t := t_k149) (by decide +kernel) hI hI1 F1 G1 hA
  obtain ⟨x1, rfl⟩ := res_i (by decide) R1
  refine m_pop (show decode (mcode 291) 1181 = _ by decide +kernel) rfl ?_
  refine m_aload (i := 2) (show decode (mcode 291) 1182 = _ by decide +kernel) rfl ?_
  refine law_ld (j := 1) hI1 h6 hL (by decide) rfl rfl (show decode (mcode 291) 1183 = _ by decide +kernel) (show decode (mcode 291) 1184 = _ by decide +kernel) (show decode (mcode 291) 1185 = _ by decide +kernel) (show decode (mcode 291) 1186 = _ by decide +kernel) (show decode (mcode 291) 1187 = _ by decide +kernel) ?_
  refine law_ld (j := 2) hI1 h6 hL (by decide) rfl rfl (show decode (mcode 291) 1188 = _ by decide +kernel) (show decode (mcode 291) 1189 = _ by decide +kernel) (show decode (mcode 291) 1190 = _ by decide +kernel) (show decode (mcode 291) 1191 = _ by decide +kernel) (show decode (mcode 291) 1192 = _ by decide +kernel) ?_
  refine law_Y (na := 2) (t := t_k269) (ρ := rl [0, scr L xs (6 * n + 1), scr L xs (6 * n + 2)]) [vi (scr L xs (6 * n + 1)), vi (scr L xs (6 * n + 2))] [] (fun g => KOKx_of (k_k269 g)) (by decide +kernel) hI1 (preY_ok (by decide +kernel) (by omega) hI1) hd (BO_rl ⟨⟨by decide, by decide⟩, scr_b, scr_b, trivial⟩) ⟨⟨rfl, hI1.2.2.2.2.2.2.1, by decide⟩, ar1 (i := 1), ar1 (i := 2), trivial⟩ (show decode (mcode 291) 1193 = _ by decide +kernel) (show pool (mcls 291) 153 = _ by decide +kernel) rfl (by decide +kernel) (by decide +kernel) (by decide +kernel) (Nat.le_of_ble_eq_true rfl) (fun r2 Γ2 M2 hI2 a2 b2 R2 F2 G2 _ => ?_)
  have A2 := AL_keep (t := t_k269) (by decide +kernel) hI1 hI2 F2 G2 A1
  obtain ⟨x2, rfl⟩ := res_i (by decide) R2
  refine m_pop (show decode (mcode 291) 1196 = _ by decide +kernel) rfl ?_
  exact m_goto (off := 256) 1453 (show decode (mcode 291) 1197 = _ by decide +kernel) (by decide) (kk Γ2 M2 hI2 A2 (by omega) (by omega))
set_option maxRecDepth 100000 in
theorem law_c32 {d L : Nat} {xs : Nat → Int32} {X Y n : Nat} {Γ : Nat → Nat} {M : MM} {Q : Option MV → MM → Prop} (hd : 20 ≤ d) (hI : INV L xs X Y n n Γ M) (hA : AL X Y Γ M) (hn : n ≤ 512) (h6 : 6 * n + 6 ≤ L) (hL : L ≤ 3072) (kk : ∀ Γ2 M2, INV L xs X Y (n + 1) (n + 1) Γ2 M2 → AL X Y Γ2 M2 → M2.1 ≤ M.1 + 19 → M2.2.1 ≤ M.2.1 + 2600 → Wm d 291 1453 (lsn X Y n) [] M2 Q) : Wm d 291 1200 (lsn X Y n) [] M Q := by
  refine m_aload (i := 1) (show decode (mcode 291) 1200 = _ by decide +kernel) rfl ?_
  refine law_ld (j := 1) hI h6 hL (by decide) rfl rfl (show decode (mcode 291) 1201 = _ by decide +kernel) (show decode (mcode 291) 1202 = _ by decide +kernel) (show decode (mcode 291) 1203 = _ by decide +kernel) (show decode (mcode 291) 1204 = _ by decide +kernel) (show decode (mcode 291) 1205 = _ by decide +kernel) ?_
  refine law_ld (j := 2) hI h6 hL (by decide) rfl rfl (show decode (mcode 291) 1206 = _ by decide +kernel) (show decode (mcode 291) 1207 = _ by decide +kernel) (show decode (mcode 291) 1208 = _ by decide +kernel) (show decode (mcode 291) 1209 = _ by decide +kernel) (show decode (mcode 291) 1210 = _ by decide +kernel) ?_
  refine law_X (na := 2) (t := t_k150) (ρ := rl [0, scr L xs (6 * n + 1), scr L xs (6 * n + 2)]) [vi (scr L xs (6 * n + 1)), vi (scr L xs (6 * n + 2))] [] (fun g => KOKx_of (k_k150 g)) (by decide +kernel) hI (preX_ok (by decide +kernel) (by omega) hI) hd (BO_rl ⟨⟨by decide, by decide⟩, scr_b, scr_b, trivial⟩) ⟨⟨rfl, hI.2.2.2.2.2.1, by decide⟩, ar1 (i := 1), ar1 (i := 2), trivial⟩ (show decode (mcode 291) 1211 = _ by decide +kernel) (show pool (mcls 291) 154 = _ by decide +kernel) rfl (by decide +kernel) (by decide +kernel) (by decide +kernel) (Nat.le_of_ble_eq_true rfl) (fun r1 Γ1 M1 hI1 a1 b1 R1 F1 G1 _ => ?_)
  have A1 := AL_keep (t := t_k150) (by decide +kernel) hI hI1 F1 G1 hA
  obtain ⟨x1, rfl⟩ := res_i (by decide) R1
  refine m_pop (show decode (mcode 291) 1214 = _ by decide +kernel) rfl ?_
  refine m_aload (i := 2) (show decode (mcode 291) 1215 = _ by decide +kernel) rfl ?_
  refine law_ld (j := 1) hI1 h6 hL (by decide) rfl rfl (show decode (mcode 291) 1216 = _ by decide +kernel) (show decode (mcode 291) 1217 = _ by decide +kernel) (show decode (mcode 291) 1218 = _ by decide +kernel) (show decode (mcode 291) 1219 = _ by decide +kernel) (show decode (mcode 291) 1220 = _ by decide +kernel) ?_
  refine law_ld (j := 2) hI1 h6 hL (by decide) rfl rfl (show decode (mcode 291) 1221 = _ by decide +kernel) (show decode (mcode 291) 1222 = _ by decide +kernel) (show decode (mcode 291) 1223 = _ by decide +kernel) (show decode (mcode 291) 1224 = _ by decide +kernel) (show decode (mcode 291) 1225 = _ by decide +kernel) ?_
  refine law_Y (na := 2) (t := t_k273) (ρ := rl [0, scr L xs (6 * n + 1), scr L xs (6 * n + 2)]) [vi (scr L xs (6 * n + 1)), vi (scr L xs (6 * n + 2))] [] (fun g => KOKx_of (k_k273 g)) (by decide +kernel) hI1 (preY_ok (by decide +kernel) (by omega) hI1) hd (BO_rl ⟨⟨by decide, by decide⟩, scr_b, scr_b, trivial⟩) ⟨⟨rfl, hI1.2.2.2.2.2.2.1, by decide⟩, ar1 (i := 1), ar1 (i := 2), trivial⟩ (show decode (mcode 291) 1226 = _ by decide +kernel) (show pool (mcls 291) 157 = _ by decide +kernel) rfl (by decide +kernel) (by decide +kernel) (by decide +kernel) (Nat.le_of_ble_eq_true rfl) (fun r2 Γ2 M2 hI2 a2 b2 R2 F2 G2 _ => ?_)
  have A2 := AL_keep (t := t_k273) (by decide +kernel) hI1 hI2 F2 G2 A1
  obtain ⟨x2, rfl⟩ := res_i (by decide) R2
  refine m_pop (show decode (mcode 291) 1229 = _ by decide +kernel) rfl ?_
  exact m_goto (off := 223) 1453 (show decode (mcode 291) 1230 = _ by decide +kernel) (by decide) (kk Γ2 M2 hI2 A2 (by omega) (by omega))
set_option maxRecDepth 100000 in
theorem law_c33 {d L : Nat} {xs : Nat → Int32} {X Y n : Nat} {Γ : Nat → Nat} {M : MM} {Q : Option MV → MM → Prop} (hd : 20 ≤ d) (hI : INV L xs X Y n n Γ M) (hA : AL X Y Γ M) (hn : n ≤ 512) (h6 : 6 * n + 6 ≤ L) (hL : L ≤ 3072) (kk : ∀ Γ2 M2, INV L xs X Y (n + 1) (n + 1) Γ2 M2 → AL X Y Γ2 M2 → M2.1 ≤ M.1 + 19 → M2.2.1 ≤ M.2.1 + 2600 → Wm d 291 1453 (lsn X Y n) [] M2 Q) : Wm d 291 1233 (lsn X Y n) [] M Q := by
  refine m_aload (i := 1) (show decode (mcode 291) 1233 = _ by decide +kernel) rfl ?_
  refine law_ld (j := 1) hI h6 hL (by decide) rfl rfl (show decode (mcode 291) 1234 = _ by decide +kernel) (show decode (mcode 291) 1235 = _ by decide +kernel) (show decode (mcode 291) 1236 = _ by decide +kernel) (show decode (mcode 291) 1237 = _ by decide +kernel) (show decode (mcode 291) 1238 = _ by decide +kernel) ?_
  refine law_X (na := 1) (t := t_k151) (ρ := rl [0, scr L xs (6 * n + 1)]) [vi (scr L xs (6 * n + 1))] [] (fun g => KOKx_of (k_k151 g)) (by decide +kernel) hI (preX_ok (by decide +kernel) (by omega) hI) hd (BO_rl ⟨⟨by decide, by decide⟩, scr_b, trivial⟩) ⟨⟨rfl, hI.2.2.2.2.2.1, by decide⟩, ar1 (i := 1), trivial⟩ (show decode (mcode 291) 1239 = _ by decide +kernel) (show pool (mcls 291) 158 = _ by decide +kernel) rfl (by decide +kernel) (by decide +kernel) (by decide +kernel) (Nat.le_of_ble_eq_true rfl) (fun r1 Γ1 M1 hI1 a1 b1 R1 F1 G1 _ => ?_)
  have A1 := AL_keep (t := t_k151) (by decide +kernel) hI hI1 F1 G1 hA
  obtain ⟨x1, rfl⟩ := res_i (by decide) R1
  refine m_pop (show decode (mcode 291) 1242 = _ by decide +kernel) rfl ?_
  refine m_aload (i := 2) (show decode (mcode 291) 1243 = _ by decide +kernel) rfl ?_
  refine law_ld (j := 1) hI1 h6 hL (by decide) rfl rfl (show decode (mcode 291) 1244 = _ by decide +kernel) (show decode (mcode 291) 1245 = _ by decide +kernel) (show decode (mcode 291) 1246 = _ by decide +kernel) (show decode (mcode 291) 1247 = _ by decide +kernel) (show decode (mcode 291) 1248 = _ by decide +kernel) ?_
  refine law_Y (na := 1) (t := t_k275) (ρ := rl [0, scr L xs (6 * n + 1)]) [vi (scr L xs (6 * n + 1))] [] (fun g => KOKx_of (k_k275 g)) (by decide +kernel) hI1 (preY_ok (by decide +kernel) (by omega) hI1) hd (BO_rl ⟨⟨by decide, by decide⟩, scr_b, trivial⟩) ⟨⟨rfl, hI1.2.2.2.2.2.2.1, by decide⟩, ar1 (i := 1), trivial⟩ (show decode (mcode 291) 1249 = _ by decide +kernel) (show pool (mcls 291) 161 = _ by decide +kernel) rfl (by decide +kernel) (by decide +kernel) (by decide +kernel) (Nat.le_of_ble_eq_true rfl) (fun r2 Γ2 M2 hI2 a2 b2 R2 F2 G2 _ => ?_)
  have A2 := AL_keep (t := t_k275) (by decide +kernel) hI1 hI2 F2 G2 A1
  obtain ⟨x2, rfl⟩ := res_i (by decide) R2
  refine m_pop (show decode (mcode 291) 1252 = _ by decide +kernel) rfl ?_
  exact m_goto (off := 200) 1453 (show decode (mcode 291) 1253 = _ by decide +kernel) (by decide) (kk Γ2 M2 hI2 A2 (by omega) (by omega))
set_option maxRecDepth 100000 in
theorem law_c34 {d L : Nat} {xs : Nat → Int32} {X Y n : Nat} {Γ : Nat → Nat} {M : MM} {Q : Option MV → MM → Prop} (hd : 20 ≤ d) (hI : INV L xs X Y n n Γ M) (hA : AL X Y Γ M) (hn : n ≤ 512) (h6 : 6 * n + 6 ≤ L) (hL : L ≤ 3072) (kk : ∀ Γ2 M2, INV L xs X Y (n + 1) (n + 1) Γ2 M2 → AL X Y Γ2 M2 → M2.1 ≤ M.1 + 19 → M2.2.1 ≤ M.2.1 + 2600 → Wm d 291 1453 (lsn X Y n) [] M2 Q) : Wm d 291 1256 (lsn X Y n) [] M Q := by
  refine m_aload (i := 1) (show decode (mcode 291) 1256 = _ by decide +kernel) rfl ?_
  refine law_ld (j := 1) hI h6 hL (by decide) rfl rfl (show decode (mcode 291) 1257 = _ by decide +kernel) (show decode (mcode 291) 1258 = _ by decide +kernel) (show decode (mcode 291) 1259 = _ by decide +kernel) (show decode (mcode 291) 1260 = _ by decide +kernel) (show decode (mcode 291) 1261 = _ by decide +kernel) ?_
  refine law_ld (j := 2) hI h6 hL (by decide) rfl rfl (show decode (mcode 291) 1262 = _ by decide +kernel) (show decode (mcode 291) 1263 = _ by decide +kernel) (show decode (mcode 291) 1264 = _ by decide +kernel) (show decode (mcode 291) 1265 = _ by decide +kernel) (show decode (mcode 291) 1266 = _ by decide +kernel) ?_
  refine law_X (na := 2) (t := t_k152) (ρ := rl [0, scr L xs (6 * n + 1), scr L xs (6 * n + 2)]) [vi (scr L xs (6 * n + 1)), vi (scr L xs (6 * n + 2))] [] (fun g => KOKx_of (k_k152 g)) (by decide +kernel) hI (preX_ok (by decide +kernel) (by omega) hI) hd (BO_rl ⟨⟨by decide, by decide⟩, scr_b, scr_b, trivial⟩) ⟨⟨rfl, hI.2.2.2.2.2.1, by decide⟩, ar1 (i := 1), ar1 (i := 2), trivial⟩ (show decode (mcode 291) 1267 = _ by decide +kernel) (show pool (mcls 291) 162 = _ by decide +kernel) rfl (by decide +kernel) (by decide +kernel) (by decide +kernel) (Nat.le_of_ble_eq_true rfl) (fun r1 Γ1 M1 hI1 a1 b1 R1 F1 G1 _ => ?_)
  have A1 := AL_keep (t := t_k152) (by decide +kernel) hI hI1 F1 G1 hA
  obtain ⟨x1, rfl⟩ := res_i (by decide) R1
  refine m_pop (show decode (mcode 291) 1270 = _ by decide +kernel) rfl ?_
  refine m_aload (i := 2) (show decode (mcode 291) 1271 = _ by decide +kernel) rfl ?_
  refine law_ld (j := 1) hI1 h6 hL (by decide) rfl rfl (show decode (mcode 291) 1272 = _ by decide +kernel) (show decode (mcode 291) 1273 = _ by decide +kernel) (show decode (mcode 291) 1274 = _ by decide +kernel) (show decode (mcode 291) 1275 = _ by decide +kernel) (show decode (mcode 291) 1276 = _ by decide +kernel) ?_
  refine law_ld (j := 2) hI1 h6 hL (by decide) rfl rfl (show decode (mcode 291) 1277 = _ by decide +kernel) (show decode (mcode 291) 1278 = _ by decide +kernel) (show decode (mcode 291) 1279 = _ by decide +kernel) (show decode (mcode 291) 1280 = _ by decide +kernel) (show decode (mcode 291) 1281 = _ by decide +kernel) ?_
  refine law_Y (na := 2) (t := t_k276) (ρ := rl [0, scr L xs (6 * n + 1), scr L xs (6 * n + 2)]) [vi (scr L xs (6 * n + 1)), vi (scr L xs (6 * n + 2))] [] (fun g => KOKx_of (k_k276 g)) (by decide +kernel) hI1 (preY_ok (by decide +kernel) (by omega) hI1) hd (BO_rl ⟨⟨by decide, by decide⟩, scr_b, scr_b, trivial⟩) ⟨⟨rfl, hI1.2.2.2.2.2.2.1, by decide⟩, ar1 (i := 1), ar1 (i := 2), trivial⟩ (show decode (mcode 291) 1282 = _ by decide +kernel) (show pool (mcls 291) 165 = _ by decide +kernel) rfl (by decide +kernel) (by decide +kernel) (by decide +kernel) (Nat.le_of_ble_eq_true rfl) (fun r2 Γ2 M2 hI2 a2 b2 R2 F2 G2 _ => ?_)
  have A2 := AL_keep (t := t_k276) (by decide +kernel) hI1 hI2 F2 G2 A1
  obtain ⟨x2, rfl⟩ := res_i (by decide) R2
  refine m_pop (show decode (mcode 291) 1285 = _ by decide +kernel) rfl ?_
  exact m_goto (off := 167) 1453 (show decode (mcode 291) 1286 = _ by decide +kernel) (by decide) (kk Γ2 M2 hI2 A2 (by omega) (by omega))
set_option maxRecDepth 100000 in
theorem law_c35 {d L : Nat} {xs : Nat → Int32} {X Y n : Nat} {Γ : Nat → Nat} {M : MM} {Q : Option MV → MM → Prop} (hd : 20 ≤ d) (hI : INV L xs X Y n n Γ M) (hA : AL X Y Γ M) (hn : n ≤ 512) (h6 : 6 * n + 6 ≤ L) (hL : L ≤ 3072) (kk : ∀ Γ2 M2, INV L xs X Y (n + 1) (n + 1) Γ2 M2 → AL X Y Γ2 M2 → M2.1 ≤ M.1 + 19 → M2.2.1 ≤ M.2.1 + 2600 → Wm d 291 1453 (lsn X Y n) [] M2 Q) : Wm d 291 1289 (lsn X Y n) [] M Q := by
  refine m_aload (i := 1) (show decode (mcode 291) 1289 = _ by decide +kernel) rfl ?_
  refine law_ld (j := 1) hI h6 hL (by decide) rfl rfl (show decode (mcode 291) 1290 = _ by decide +kernel) (show decode (mcode 291) 1291 = _ by decide +kernel) (show decode (mcode 291) 1292 = _ by decide +kernel) (show decode (mcode 291) 1293 = _ by decide +kernel) (show decode (mcode 291) 1294 = _ by decide +kernel) ?_
  refine law_ld (j := 2) hI h6 hL (by decide) rfl rfl (show decode (mcode 291) 1295 = _ by decide +kernel) (show decode (mcode 291) 1296 = _ by decide +kernel) (show decode (mcode 291) 1297 = _ by decide +kernel) (show decode (mcode 291) 1298 = _ by decide +kernel) (show decode (mcode 291) 1299 = _ by decide +kernel) ?_
  refine law_X (na := 2) (t := t_k153) (ρ := rl [0, scr L xs (6 * n + 1), scr L xs (6 * n + 2)]) [vi (scr L xs (6 * n + 1)), vi (scr L xs (6 * n + 2))] [] (fun g => KOKx_of (k_k153 g)) (by decide +kernel) hI (preX_ok (by decide +kernel) (by omega) hI) hd (BO_rl ⟨⟨by decide, by decide⟩, scr_b, scr_b, trivial⟩) ⟨⟨rfl, hI.2.2.2.2.2.1, by decide⟩, ar1 (i := 1), ar1 (i := 2), trivial⟩ (show decode (mcode 291) 1300 = _ by decide +kernel) (show pool (mcls 291) 166 = _ by decide +kernel) rfl (by decide +kernel) (by decide +kernel) (by decide +kernel) (Nat.le_of_ble_eq_true rfl) (fun r1 Γ1 M1 hI1 a1 b1 R1 F1 G1 _ => ?_)
  have A1 := AL_keep (t := t_k153) (by decide +kernel) hI hI1 F1 G1 hA
  obtain ⟨x1, rfl⟩ := res_i (by decide) R1
  refine m_pop (show decode (mcode 291) 1303 = _ by decide +kernel) rfl ?_
  refine m_aload (i := 2) (show decode (mcode 291) 1304 = _ by decide +kernel) rfl ?_
  refine law_ld (j := 1) hI1 h6 hL (by decide) rfl rfl (show decode (mcode 291) 1305 = _ by decide +kernel) (show decode (mcode 291) 1306 = _ by decide +kernel) (show decode (mcode 291) 1307 = _ by decide +kernel) (show decode (mcode 291) 1308 = _ by decide +kernel) (show decode (mcode 291) 1309 = _ by decide +kernel) ?_
  refine law_ld (j := 2) hI1 h6 hL (by decide) rfl rfl (show decode (mcode 291) 1310 = _ by decide +kernel) (show decode (mcode 291) 1311 = _ by decide +kernel) (show decode (mcode 291) 1312 = _ by decide +kernel) (show decode (mcode 291) 1313 = _ by decide +kernel) (show decode (mcode 291) 1314 = _ by decide +kernel) ?_
  refine law_Y (na := 2) (t := t_k279) (ρ := rl [0, scr L xs (6 * n + 1), scr L xs (6 * n + 2)]) [vi (scr L xs (6 * n + 1)), vi (scr L xs (6 * n + 2))] [] (fun g => KOKx_of (k_k279 g)) (by decide +kernel) hI1 (preY_ok (by decide +kernel) (by omega) hI1) hd (BO_rl ⟨⟨by decide, by decide⟩, scr_b, scr_b, trivial⟩) ⟨⟨rfl, hI1.2.2.2.2.2.2.1, by decide⟩, ar1 (i := 1), ar1 (i := 2), trivial⟩ (show decode (mcode 291) 1315 = _ by decide +kernel) (show pool (mcls 291) 169 = _ by decide +kernel) rfl (by decide +kernel) (by decide +kernel) (by decide +kernel) (Nat.le_of_ble_eq_true rfl) (fun r2 Γ2 M2 hI2 a2 b2 R2 F2 G2 _ => ?_)
  have A2 := AL_keep (t := t_k279) (by decide +kernel) hI1 hI2 F2 G2 A1
  obtain ⟨x2, rfl⟩ := res_i (by decide) R2
  refine m_pop (show decode (mcode 291) 1318 = _ by decide +kernel) rfl ?_
  exact m_goto (off := 134) 1453 (show decode (mcode 291) 1319 = _ by decide +kernel) (by decide) (kk Γ2 M2 hI2 A2 (by omega) (by omega))
set_option maxRecDepth 100000 in
theorem law_c36 {d L : Nat} {xs : Nat → Int32} {X Y n : Nat} {Γ : Nat → Nat} {M : MM} {Q : Option MV → MM → Prop} (hd : 20 ≤ d) (hI : INV L xs X Y n n Γ M) (hA : AL X Y Γ M) (hn : n ≤ 512) (h6 : 6 * n + 6 ≤ L) (hL : L ≤ 3072) (kk : ∀ Γ2 M2, INV L xs X Y (n + 1) (n + 1) Γ2 M2 → AL X Y Γ2 M2 → M2.1 ≤ M.1 + 19 → M2.2.1 ≤ M.2.1 + 2600 → Wm d 291 1453 (lsn X Y n) [] M2 Q) : Wm d 291 1322 (lsn X Y n) [] M Q := by
  refine m_aload (i := 1) (show decode (mcode 291) 1322 = _ by decide +kernel) rfl ?_
  refine law_ld (j := 1) hI h6 hL (by decide) rfl rfl (show decode (mcode 291) 1323 = _ by decide +kernel) (show decode (mcode 291) 1324 = _ by decide +kernel) (show decode (mcode 291) 1325 = _ by decide +kernel) (show decode (mcode 291) 1326 = _ by decide +kernel) (show decode (mcode 291) 1327 = _ by decide +kernel) ?_
  refine law_X (na := 1) (t := t_k154) (ρ := rl [0, scr L xs (6 * n + 1)]) [vi (scr L xs (6 * n + 1))] [] (fun g => KOKx_of (k_k154 g)) (by decide +kernel) hI (preX_ok (by decide +kernel) (by omega) hI) hd (BO_rl ⟨⟨by decide, by decide⟩, scr_b, trivial⟩) ⟨⟨rfl, hI.2.2.2.2.2.1, by decide⟩, ar1 (i := 1), trivial⟩ (show decode (mcode 291) 1328 = _ by decide +kernel) (show pool (mcls 291) 170 = _ by decide +kernel) rfl (by decide +kernel) (by decide +kernel) (by decide +kernel) (Nat.le_of_ble_eq_true rfl) (fun r1 Γ1 M1 hI1 a1 b1 R1 F1 G1 _ => ?_)
  have A1 := AL_keep (t := t_k154) (by decide +kernel) hI hI1 F1 G1 hA
  obtain ⟨x1, rfl⟩ := res_i (by decide) R1
  refine m_pop (show decode (mcode 291) 1331 = _ by decide +kernel) rfl ?_
  refine m_aload (i := 2) (show decode (mcode 291) 1332 = _ by decide +kernel) rfl ?_
  refine law_ld (j := 1) hI1 h6 hL (by decide) rfl rfl (show decode (mcode 291) 1333 = _ by decide +kernel) (show decode (mcode 291) 1334 = _ by decide +kernel) (show decode (mcode 291) 1335 = _ by decide +kernel) (show decode (mcode 291) 1336 = _ by decide +kernel) (show decode (mcode 291) 1337 = _ by decide +kernel) ?_
  refine law_Y (na := 1) (t := t_k280) (ρ := rl [0, scr L xs (6 * n + 1)]) [vi (scr L xs (6 * n + 1))] [] (fun g => KOKx_of (k_k280 g)) (by decide +kernel) hI1 (preY_ok (by decide +kernel) (by omega) hI1) hd (BO_rl ⟨⟨by decide, by decide⟩, scr_b, trivial⟩) ⟨⟨rfl, hI1.2.2.2.2.2.2.1, by decide⟩, ar1 (i := 1), trivial⟩ (show decode (mcode 291) 1338 = _ by decide +kernel) (show pool (mcls 291) 173 = _ by decide +kernel) rfl (by decide +kernel) (by decide +kernel) (by decide +kernel) (Nat.le_of_ble_eq_true rfl) (fun r2 Γ2 M2 hI2 a2 b2 R2 F2 G2 _ => ?_)
  have A2 := AL_keep (t := t_k280) (by decide +kernel) hI1 hI2 F2 G2 A1
  obtain ⟨x2, rfl⟩ := res_i (by decide) R2
  refine m_pop (show decode (mcode 291) 1341 = _ by decide +kernel) rfl ?_
  exact m_goto (off := 111) 1453 (show decode (mcode 291) 1342 = _ by decide +kernel) (by decide) (kk Γ2 M2 hI2 A2 (by omega) (by omega))
set_option maxRecDepth 100000 in
theorem law_c37 {d L : Nat} {xs : Nat → Int32} {X Y n : Nat} {Γ : Nat → Nat} {M : MM} {Q : Option MV → MM → Prop} (hd : 20 ≤ d) (hI : INV L xs X Y n n Γ M) (hA : AL X Y Γ M) (hn : n ≤ 512) (h6 : 6 * n + 6 ≤ L) (hL : L ≤ 3072) (kk : ∀ Γ2 M2, INV L xs X Y (n + 1) (n + 1) Γ2 M2 → AL X Y Γ2 M2 → M2.1 ≤ M.1 + 19 → M2.2.1 ≤ M.2.1 + 2600 → Wm d 291 1453 (lsn X Y n) [] M2 Q) : Wm d 291 1345 (lsn X Y n) [] M Q := by
  refine m_aload (i := 1) (show decode (mcode 291) 1345 = _ by decide +kernel) rfl ?_
  refine law_X (na := 0) (t := t_k155) (ρ := rl [0]) [] [] (fun g => KOKx_of (k_k155 g)) (by decide +kernel) hI (preX_ok (by decide +kernel) (by omega) hI) hd (BO_rl ⟨⟨by decide, by decide⟩, trivial⟩) ⟨⟨rfl, hI.2.2.2.2.2.1, by decide⟩, trivial⟩ (show decode (mcode 291) 1346 = _ by decide +kernel) (show pool (mcls 291) 174 = _ by decide +kernel) rfl (by decide +kernel) (by decide +kernel) (by decide +kernel) (Nat.le_of_ble_eq_true rfl) (fun r1 Γ1 M1 hI1 a1 b1 R1 F1 G1 _ => ?_)
  have A1 := AL_keep (t := t_k155) (by decide +kernel) hI hI1 F1 G1 hA
  obtain ⟨x1, rfl⟩ := res_i (by decide) R1
  refine m_pop (show decode (mcode 291) 1349 = _ by decide +kernel) rfl ?_
  refine m_aload (i := 2) (show decode (mcode 291) 1350 = _ by decide +kernel) rfl ?_
  refine law_Y (na := 0) (t := t_k189) (ρ := rl [0]) [] [] (fun g => KOKx_of (k_k189 g)) (by decide +kernel) hI1 (preY_ok (by decide +kernel) (by omega) hI1) hd (BO_rl ⟨⟨by decide, by decide⟩, trivial⟩) ⟨⟨rfl, hI1.2.2.2.2.2.2.1, by decide⟩, trivial⟩ (show decode (mcode 291) 1351 = _ by decide +kernel) (show pool (mcls 291) 177 = _ by decide +kernel) rfl (by decide +kernel) (by decide +kernel) (by decide +kernel) (Nat.le_of_ble_eq_true rfl) (fun r2 Γ2 M2 hI2 a2 b2 R2 F2 G2 _ => ?_)
  have A2 := AL_keep (t := t_k189) (by decide +kernel) hI1 hI2 F2 G2 A1
  obtain ⟨x2, rfl⟩ := res_i (by decide) R2
  refine m_pop (show decode (mcode 291) 1354 = _ by decide +kernel) rfl ?_
  exact m_goto (off := 98) 1453 (show decode (mcode 291) 1355 = _ by decide +kernel) (by decide) (kk Γ2 M2 hI2 A2 (by omega) (by omega))
set_option maxRecDepth 100000 in
theorem law_c38 {d L : Nat} {xs : Nat → Int32} {X Y n : Nat} {Γ : Nat → Nat} {M : MM} {Q : Option MV → MM → Prop} (hd : 20 ≤ d) (hI : INV L xs X Y n n Γ M) (hA : AL X Y Γ M) (hn : n ≤ 512) (h6 : 6 * n + 6 ≤ L) (hL : L ≤ 3072) (kk : ∀ Γ2 M2, INV L xs X Y (n + 1) (n + 1) Γ2 M2 → AL X Y Γ2 M2 → M2.1 ≤ M.1 + 19 → M2.2.1 ≤ M.2.1 + 2600 → Wm d 291 1453 (lsn X Y n) [] M2 Q) : Wm d 291 1358 (lsn X Y n) [] M Q := by
  refine m_aload (i := 1) (show decode (mcode 291) 1358 = _ by decide +kernel) rfl ?_
  refine law_ld (j := 1) hI h6 hL (by decide) rfl rfl (show decode (mcode 291) 1359 = _ by decide +kernel) (show decode (mcode 291) 1360 = _ by decide +kernel) (show decode (mcode 291) 1361 = _ by decide +kernel) (show decode (mcode 291) 1362 = _ by decide +kernel) (show decode (mcode 291) 1363 = _ by decide +kernel) ?_
  refine law_ld (j := 2) hI h6 hL (by decide) rfl rfl (show decode (mcode 291) 1364 = _ by decide +kernel) (show decode (mcode 291) 1365 = _ by decide +kernel) (show decode (mcode 291) 1366 = _ by decide +kernel) (show decode (mcode 291) 1367 = _ by decide +kernel) (show decode (mcode 291) 1368 = _ by decide +kernel) ?_
  refine law_X (na := 2) (t := t_k156) (ρ := rl [0, scr L xs (6 * n + 1), scr L xs (6 * n + 2)]) [vi (scr L xs (6 * n + 1)), vi (scr L xs (6 * n + 2))] [] (fun g => KOKx_of (k_k156 g)) (by decide +kernel) hI (preX_ok (by decide +kernel) (by omega) hI) hd (BO_rl ⟨⟨by decide, by decide⟩, scr_b, scr_b, trivial⟩) ⟨⟨rfl, hI.2.2.2.2.2.1, by decide⟩, ar1 (i := 1), ar1 (i := 2), trivial⟩ (show decode (mcode 291) 1369 = _ by decide +kernel) (show pool (mcls 291) 178 = _ by decide +kernel) rfl (by decide +kernel) (by decide +kernel) (by decide +kernel) (Nat.le_of_ble_eq_true rfl) (fun r1 Γ1 M1 hI1 a1 b1 R1 F1 G1 _ => ?_)
  have A1 := AL_keep (t := t_k156) (by decide +kernel) hI hI1 F1 G1 hA
  obtain ⟨x1, rfl⟩ := res_i (by decide) R1
  refine m_pop (show decode (mcode 291) 1372 = _ by decide +kernel) rfl ?_
  refine m_aload (i := 2) (show decode (mcode 291) 1373 = _ by decide +kernel) rfl ?_
  refine law_ld (j := 1) hI1 h6 hL (by decide) rfl rfl (show decode (mcode 291) 1374 = _ by decide +kernel) (show decode (mcode 291) 1375 = _ by decide +kernel) (show decode (mcode 291) 1376 = _ by decide +kernel) (show decode (mcode 291) 1377 = _ by decide +kernel) (show decode (mcode 291) 1378 = _ by decide +kernel) ?_
  refine law_ld (j := 2) hI1 h6 hL (by decide) rfl rfl (show decode (mcode 291) 1379 = _ by decide +kernel) (show decode (mcode 291) 1380 = _ by decide +kernel) (show decode (mcode 291) 1381 = _ by decide +kernel) (show decode (mcode 291) 1382 = _ by decide +kernel) (show decode (mcode 291) 1383 = _ by decide +kernel) ?_
  refine law_Y (na := 2) (t := t_k281) (ρ := rl [0, scr L xs (6 * n + 1), scr L xs (6 * n + 2)]) [vi (scr L xs (6 * n + 1)), vi (scr L xs (6 * n + 2))] [] (fun g => KOKx_of (k_k281 g)) (by decide +kernel) hI1 (preY_ok (by decide +kernel) (by omega) hI1) hd (BO_rl ⟨⟨by decide, by decide⟩, scr_b, scr_b, trivial⟩) ⟨⟨rfl, hI1.2.2.2.2.2.2.1, by decide⟩, ar1 (i := 1), ar1 (i := 2), trivial⟩ (show decode (mcode 291) 1384 = _ by decide +kernel) (show pool (mcls 291) 181 = _ by decide +kernel) rfl (by decide +kernel) (by decide +kernel) (by decide +kernel) (Nat.le_of_ble_eq_true rfl) (fun r2 Γ2 M2 hI2 a2 b2 R2 F2 G2 _ => ?_)
  have A2 := AL_keep (t := t_k281) (by decide +kernel) hI1 hI2 F2 G2 A1
  obtain ⟨x2, rfl⟩ := res_i (by decide) R2
  refine m_pop (show decode (mcode 291) 1387 = _ by decide +kernel) rfl ?_
  exact m_goto (off := 65) 1453 (show decode (mcode 291) 1388 = _ by decide +kernel) (by decide) (kk Γ2 M2 hI2 A2 (by omega) (by omega))
set_option maxRecDepth 100000 in
theorem law_c39 {d L : Nat} {xs : Nat → Int32} {X Y n : Nat} {Γ : Nat → Nat} {M : MM} {Q : Option MV → MM → Prop} (hd : 20 ≤ d) (hI : INV L xs X Y n n Γ M) (hA : AL X Y Γ M) (hn : n ≤ 512) (h6 : 6 * n + 6 ≤ L) (hL : L ≤ 3072) (kk : ∀ Γ2 M2, INV L xs X Y (n + 1) (n + 1) Γ2 M2 → AL X Y Γ2 M2 → M2.1 ≤ M.1 + 19 → M2.2.1 ≤ M.2.1 + 2600 → Wm d 291 1453 (lsn X Y n) [] M2 Q) : Wm d 291 1391 (lsn X Y n) [] M Q := by
  refine m_aload (i := 1) (show decode (mcode 291) 1391 = _ by decide +kernel) rfl ?_
  refine law_ld (j := 1) hI h6 hL (by decide) rfl rfl (show decode (mcode 291) 1392 = _ by decide +kernel) (show decode (mcode 291) 1393 = _ by decide +kernel) (show decode (mcode 291) 1394 = _ by decide +kernel) (show decode (mcode 291) 1395 = _ by decide +kernel) (show decode (mcode 291) 1396 = _ by decide +kernel) ?_
  refine law_z (tz := 1404) (te := 1405) (o1 := 7) (o2 := 4) (show decode (mcode 291) 1397 = _ by decide +kernel) (by decide) (show decode (mcode 291) 1400 = _ by decide +kernel) (show decode (mcode 291) 1401 = _ by decide +kernel) (by decide) (show decode (mcode 291) 1404 = _ by decide +kernel) (by decide) (fun z1 hz1 => ?_)
  refine law_X (na := 1) (t := t_k157) (ρ := rl [0, z1]) [vi z1] [] (fun g => KOKx_of (k_k157 g)) (by decide +kernel) hI (preX_ok (by decide +kernel) (by omega) hI) hd (BO_rl ⟨⟨by decide, by decide⟩, (by rcases hz1 with h | h <;> (rw [h.1]; decide)), trivial⟩) ⟨⟨rfl, hI.2.2.2.2.2.1, by decide⟩, ar1 (i := 1), trivial⟩ (show decode (mcode 291) 1405 = _ by decide +kernel) (show pool (mcls 291) 182 = _ by decide +kernel) rfl (by decide +kernel) (by decide +kernel) (by decide +kernel) (Nat.le_of_ble_eq_true rfl) (fun r1 Γ1 M1 hI1 a1 b1 R1 F1 G1 _ => ?_)
  have A1 := AL_keep (t := t_k157) (by decide +kernel) hI hI1 F1 G1 hA
  obtain ⟨x1, rfl⟩ := res_i (by decide) R1
  refine m_pop (show decode (mcode 291) 1408 = _ by decide +kernel) rfl ?_
  refine m_aload (i := 2) (show decode (mcode 291) 1409 = _ by decide +kernel) rfl ?_
  refine law_ld (j := 1) hI1 h6 hL (by decide) rfl rfl (show decode (mcode 291) 1410 = _ by decide +kernel) (show decode (mcode 291) 1411 = _ by decide +kernel) (show decode (mcode 291) 1412 = _ by decide +kernel) (show decode (mcode 291) 1413 = _ by decide +kernel) (show decode (mcode 291) 1414 = _ by decide +kernel) ?_
  refine law_z (tz := 1422) (te := 1423) (o1 := 7) (o2 := 4) (show decode (mcode 291) 1415 = _ by decide +kernel) (by decide) (show decode (mcode 291) 1418 = _ by decide +kernel) (show decode (mcode 291) 1419 = _ by decide +kernel) (by decide) (show decode (mcode 291) 1422 = _ by decide +kernel) (by decide) (fun z2 hz2 => ?_)
  rcases hz2 with ⟨rfl, hq⟩ | ⟨rfl, hq⟩
  · refine law_Y (na := 1) (t := t_k282_0) (ρ := rl [0, (0 : Int)]) [vi (0 : Int)] [] (fun g => KOKx_of (k_k282_0 g)) (by decide +kernel) hI1 (preY_ok (by decide +kernel) (by omega) hI1) hd (BO_rl ⟨⟨by decide, by decide⟩, ⟨by decide, by decide⟩, trivial⟩) ⟨⟨rfl, hI1.2.2.2.2.2.2.1, by decide⟩, ar1 (i := 1), trivial⟩ (show decode (mcode 291) 1423 = _ by decide +kernel) (show pool (mcls 291) 186 = _ by decide +kernel) rfl (by decide +kernel) (by decide +kernel) (by decide +kernel) (Nat.le_of_ble_eq_true rfl) (fun r2 Γ2 M2 hI2 a2 b2 R2 F2 G2 _ => ?_)
    have A2 := AL_keep (t := t_k282_0) (by decide +kernel) hI1 hI2 F2 G2 A1
    obtain ⟨x2, rfl⟩ := res_i (by decide) R2
    refine m_pop (show decode (mcode 291) 1426 = _ by decide +kernel) rfl ?_
    exact m_goto (off := 26) 1453 (show decode (mcode 291) 1427 = _ by decide +kernel) (by decide) (kk Γ2 M2 hI2 A2 (by omega) (by omega))
  · refine law_Y (na := 1) (t := t_k282_1) (ρ := rl [0, (1 : Int)]) [vi (1 : Int)] [] (fun g => KOKx_of (k_k282_1 g)) (by decide +kernel) hI1 (preY_ok (by decide +kernel) (by omega) hI1) hd (BO_rl ⟨⟨by decide, by decide⟩, ⟨by decide, by decide⟩, trivial⟩) ⟨⟨rfl, hI1.2.2.2.2.2.2.1, by decide⟩, ar1 (i := 1), trivial⟩ (show decode (mcode 291) 1423 = _ by decide +kernel) (show pool (mcls 291) 186 = _ by decide +kernel) rfl (by decide +kernel) (by decide +kernel) (by decide +kernel) (Nat.le_of_ble_eq_true rfl) (fun r2 Γ2 M2 hI2 a2 b2 R2 F2 G2 _ => ?_)
    have A2 := AL_keep (t := t_k282_1) (by decide +kernel) hI1 hI2 F2 G2 A1
    obtain ⟨x2, rfl⟩ := res_i (by decide) R2
    refine m_pop (show decode (mcode 291) 1426 = _ by decide +kernel) rfl ?_
    exact m_goto (off := 26) 1453 (show decode (mcode 291) 1427 = _ by decide +kernel) (by decide) (kk Γ2 M2 hI2 A2 (by omega) (by omega))
set_option maxRecDepth 100000 in
theorem law_c40 {d L : Nat} {xs : Nat → Int32} {X Y n : Nat} {Γ : Nat → Nat} {M : MM} {Q : Option MV → MM → Prop} (hd : 20 ≤ d) (hI : INV L xs X Y n n Γ M) (hA : AL X Y Γ M) (hn : n ≤ 512) (h6 : 6 * n + 6 ≤ L) (hL : L ≤ 3072) (kk : ∀ Γ2 M2, INV L xs X Y (n + 1) (n + 1) Γ2 M2 → AL X Y Γ2 M2 → M2.1 ≤ M.1 + 19 → M2.2.1 ≤ M.2.1 + 2600 → Wm d 291 1453 (lsn X Y n) [] M2 Q) : Wm d 291 1430 (lsn X Y n) [] M Q := by
  refine m_aload (i := 1) (show decode (mcode 291) 1430 = _ by decide +kernel) rfl ?_
  refine law_ld (j := 1) hI h6 hL (by decide) rfl rfl (show decode (mcode 291) 1431 = _ by decide +kernel) (show decode (mcode 291) 1432 = _ by decide +kernel) (show decode (mcode 291) 1433 = _ by decide +kernel) (show decode (mcode 291) 1434 = _ by decide +kernel) (show decode (mcode 291) 1435 = _ by decide +kernel) ?_
  refine law_X (na := 1) (t := t_k158) (ρ := rl [0, scr L xs (6 * n + 1)]) [vi (scr L xs (6 * n + 1))] [] (fun g => KOKx_of (k_k158 g)) (by decide +kernel) hI (preX_ok (by decide +kernel) (by omega) hI) hd (BO_rl ⟨⟨by decide, by decide⟩, scr_b, trivial⟩) ⟨⟨rfl, hI.2.2.2.2.2.1, by decide⟩, ar1 (i := 1), trivial⟩ (show decode (mcode 291) 1436 = _ by decide +kernel) (show pool (mcls 291) 187 = _ by decide +kernel) rfl (by decide +kernel) (by decide +kernel) (by decide +kernel) (Nat.le_of_ble_eq_true rfl) (fun r1 Γ1 M1 hI1 a1 b1 R1 F1 G1 _ => ?_)
  have A1 := AL_keep (t := t_k158) (by decide +kernel) hI hI1 F1 G1 hA
  obtain ⟨x1, rfl⟩ := res_i (by decide) R1
  refine m_pop (show decode (mcode 291) 1439 = _ by decide +kernel) rfl ?_
  refine m_aload (i := 2) (show decode (mcode 291) 1440 = _ by decide +kernel) rfl ?_
  refine law_ld (j := 1) hI1 h6 hL (by decide) rfl rfl (show decode (mcode 291) 1441 = _ by decide +kernel) (show decode (mcode 291) 1442 = _ by decide +kernel) (show decode (mcode 291) 1443 = _ by decide +kernel) (show decode (mcode 291) 1444 = _ by decide +kernel) (show decode (mcode 291) 1445 = _ by decide +kernel) ?_
  refine law_Y (na := 1) (t := t_k287) (ρ := rl [0, scr L xs (6 * n + 1)]) [vi (scr L xs (6 * n + 1))] [] (fun g => KOKx_of (k_k287 g)) (by decide +kernel) hI1 (preY_ok (by decide +kernel) (by omega) hI1) hd (BO_rl ⟨⟨by decide, by decide⟩, scr_b, trivial⟩) ⟨⟨rfl, hI1.2.2.2.2.2.2.1, by decide⟩, ar1 (i := 1), trivial⟩ (show decode (mcode 291) 1446 = _ by decide +kernel) (show pool (mcls 291) 190 = _ by decide +kernel) rfl (by decide +kernel) (by decide +kernel) (by decide +kernel) (Nat.le_of_ble_eq_true rfl) (fun r2 Γ2 M2 hI2 a2 b2 R2 F2 G2 _ => ?_)
  have A2 := AL_keep (t := t_k287) (by decide +kernel) hI1 hI2 F2 G2 A1
  obtain ⟨x2, rfl⟩ := res_i (by decide) R2
  refine m_pop (show decode (mcode 291) 1449 = _ by decide +kernel) rfl ?_
  exact m_goto (off := 3) 1453 (show decode (mcode 291) 1450 = _ by decide +kernel) (by decide) (kk Γ2 M2 hI2 A2 (by omega) (by omega))
