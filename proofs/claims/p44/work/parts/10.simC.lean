theorem tb_cst {c idx : Nat} {x : Int} (h : cst c idx = some x) : Cond.constant (cn c) idx (Int32.ofInt x) ∈ gtl := by
  unfold cst at h
  cases hf : (ctabs.getD c []).find? (fun r => r.1 == idx) with
  | none => rw [hf] at h; cases h
  | some r =>
    rw [hf] at h
    have hx : r.2.1 = x := Option.some.inj h
    have hm := List.mem_of_find?_eq_some hf
    have h1 : r.1 = idx := by simpa using List.find?_some hf
    have hc : c < ctabs.length := by
      rcases Nat.lt_or_ge c ctabs.length with q | q
      · exact q
      · rw [List.getD_eq_getElem?_getD, List.getElem?_eq_none q] at hm; cases hm
    have h2 := List.all_eq_true.mp (List.all_eq_true.mp chkC_all c (List.mem_range.mpr hc)) r hm
    have h3 : tb_at r.2.2 (Cond.constant (cn c) r.1 (Int32.ofInt r.2.1)) = true := h2
    rw [← hx, ← h1]
    exact tb_in h3
theorem tb_csl {c idx : Nat} {x : Int} (h : csl c idx = some x) : Cond.constantLong (cn c) idx (Int64.ofInt x) ∈ gtl := by
  unfold csl at h
  cases hf : (ltabs.getD c []).find? (fun r => r.1 == idx) with
  | none => rw [hf] at h; cases h
  | some r =>
    rw [hf] at h
    have hx : r.2.1 = x := Option.some.inj h
    have hm := List.mem_of_find?_eq_some hf
    have h1 : r.1 = idx := by simpa using List.find?_some hf
    have hc : c < ltabs.length := by
      rcases Nat.lt_or_ge c ltabs.length with q | q
      · exact q
      · rw [List.getD_eq_getElem?_getD, List.getElem?_eq_none q] at hm; cases hm
    have h2 := List.all_eq_true.mp (List.all_eq_true.mp chkL_all c (List.mem_range.mpr hc)) r hm
    have h3 : tb_at r.2.2 (Cond.constantLong (cn c) r.1 (Int64.ofInt r.2.1)) = true := h2
    rw [← hx, ← h1]
    exact tb_in h3
section SIMC
variable {p : Program} {l : Launch} {e : Env} {RR : Room} {s : State} {m : MethodId} {args : Array Value} {below : List Frame} {meth : Method} {c : Code} {Q : State → Prop} {D : va_G} {cI cZ cW : ClassId} {base b L : Nat} {xs : Nat → Int32} {k cE sE : Nat} {Me : MM} {C : Nx} {call : Cl}
variable {ls st : List MV} {M : MM} {lsr : Array Slot} {H : Heap} {locs : List Loc} {cells slots pc len : Nat}
theorem z_iconst {n : Int} (F : mFix p s m args meth c D cI cZ cW base b k) (hC : SimC p l e RR s m args below meth c Q D cI cZ cW base b L xs k cE sE Me C) (hR : RS D cI cZ cW base b L xs s k cE sE Me ls st M lsr H locs cells slots) (hd : decode (mcode k) pc = .ok (.iconst n, len)) (h : stepI call k (.iconst n) len pc ls st M C) : W p l e RR s m args below meth c H locs cells slots Q (F0 m pc lsr (st.map (mrv base b))) := by
  obtain ⟨rfl, hn, hc⟩ := h
  exact lv_iconst F.1 F.2.1 hd rfl ((hC _ _ _ _ hc).2 lsr H locs cells slots (hR.sk (ok_c (y := vi n) hn hR.2.2.1)))
theorem z_bipush {n : Int} (F : mFix p s m args meth c D cI cZ cW base b k) (hC : SimC p l e RR s m args below meth c Q D cI cZ cW base b L xs k cE sE Me C) (hR : RS D cI cZ cW base b L xs s k cE sE Me ls st M lsr H locs cells slots) (hd : decode (mcode k) pc = .ok (.bipush n, len)) (h : stepI call k (.bipush n) len pc ls st M C) : W p l e RR s m args below meth c H locs cells slots Q (F0 m pc lsr (st.map (mrv base b))) := by
  obtain ⟨rfl, hn, h8, hc⟩ := h
  exact lv_bipush F.1 F.2.1 hd h8 ((hC _ _ _ _ hc).2 lsr H locs cells slots (hR.sk (ok_c (y := vi n) hn hR.2.2.1)))
theorem z_sipush {n : Int} (F : mFix p s m args meth c D cI cZ cW base b k) (hC : SimC p l e RR s m args below meth c Q D cI cZ cW base b L xs k cE sE Me C) (hR : RS D cI cZ cW base b L xs s k cE sE Me ls st M lsr H locs cells slots) (hd : decode (mcode k) pc = .ok (.sipush n, len)) (h : stepI call k (.sipush n) len pc ls st M C) : W p l e RR s m args below meth c H locs cells slots Q (F0 m pc lsr (st.map (mrv base b))) := by
  obtain ⟨rfl, hn, h8, hc⟩ := h
  exact lv_sipush F.1 F.2.1 hd h8 ((hC _ _ _ _ hc).2 lsr H locs cells slots (hR.sk (ok_c (y := vi n) hn hR.2.2.1)))
theorem z_lconst {n : Fin 2} (F : mFix p s m args meth c D cI cZ cW base b k) (hC : SimC p l e RR s m args below meth c Q D cI cZ cW base b L xs k cE sE Me C) (hR : RS D cI cZ cW base b L xs s k cE sE Me ls st M lsr H locs cells slots) (hd : decode (mcode k) pc = .ok (.lconst n, len)) (h : stepI call k (.lconst n) len pc ls st M C) : W p l e RR s m args below meth c H locs cells slots Q (F0 m pc lsr (st.map (mrv base b))) := by
  obtain ⟨rfl, hc⟩ := h
  have hn : inL ((n : Nat) : Int) := by unfold inL; omega
  exact lv_lconst (v := Int64.ofInt ((n : Nat) : Int)) F.1 F.2.1 hd rfl ((hC _ _ _ _ hc).2 lsr H locs cells slots (hR.sk (ok_c (y := vl _) hn hR.2.2.1)))
theorem z_ldc {idx : Nat} (F : mFix p s m args meth c D cI cZ cW base b k) (hC : SimC p l e RR s m args below meth c Q D cI cZ cW base b L xs k cE sE Me C) (hR : RS D cI cZ cW base b L xs s k cE sE Me ls st M lsr H locs cells slots) (hd : decode (mcode k) pc = .ok (.ldc idx, len)) (h : stepI call k (.ldc idx) len pc ls st M C) : W p l e RR s m args below meth c H locs cells slots Q (F0 m pc lsr (st.map (mrv base b))) := by
  obtain ⟨rfl, x, hx, hn, hc⟩ := h
  exact lv_ldc F.1 F.2.1 F.2.2.2.1 (F.2.2.2.2.1 _ (tb_cst hx)) hd ((hC _ _ _ _ hc).2 lsr H locs cells slots (hR.sk (ok_c (y := vi x) hn hR.2.2.1)))
theorem z_ldc_w {idx : Nat} (F : mFix p s m args meth c D cI cZ cW base b k) (hC : SimC p l e RR s m args below meth c Q D cI cZ cW base b L xs k cE sE Me C) (hR : RS D cI cZ cW base b L xs s k cE sE Me ls st M lsr H locs cells slots) (hd : decode (mcode k) pc = .ok (.ldc_w idx, len)) (h : stepI call k (.ldc_w idx) len pc ls st M C) : W p l e RR s m args below meth c H locs cells slots Q (F0 m pc lsr (st.map (mrv base b))) := by
  obtain ⟨rfl, x, hx, hn, hc⟩ := h
  exact lv_ldcw F.1 F.2.1 F.2.2.2.1 (F.2.2.2.2.1 _ (tb_cst hx)) hd ((hC _ _ _ _ hc).2 lsr H locs cells slots (hR.sk (ok_c (y := vi x) hn hR.2.2.1)))
theorem z_ldc2_w {idx : Nat} (F : mFix p s m args meth c D cI cZ cW base b k) (hC : SimC p l e RR s m args below meth c Q D cI cZ cW base b L xs k cE sE Me C) (hR : RS D cI cZ cW base b L xs s k cE sE Me ls st M lsr H locs cells slots) (hd : decode (mcode k) pc = .ok (.ldc2_w idx, len)) (h : stepI call k (.ldc2_w idx) len pc ls st M C) : W p l e RR s m args below meth c H locs cells slots Q (F0 m pc lsr (st.map (mrv base b))) := by
  obtain ⟨rfl, x, hx, hn, hc⟩ := h
  exact lv_ldc2 F.1 F.2.1 F.2.2.2.1 (F.2.2.2.2.1 _ (tb_csl hx)) hd ((hC _ _ _ _ hc).2 lsr H locs cells slots (hR.sk (ok_c (y := vl x) hn hR.2.2.1)))
theorem z_iload {i : Nat} (F : mFix p s m args meth c D cI cZ cW base b k) (hC : SimC p l e RR s m args below meth c Q D cI cZ cW base b L xs k cE sE Me C) (hR : RS D cI cZ cW base b L xs s k cE sE Me ls st M lsr H locs cells slots) (hd : decode (mcode k) pc = .ok (.iload i, len)) (h : stepI call k (.iload i) len pc ls st M C) : W p l e RR s m args below meth c H locs cells slots Q (F0 m pc lsr (st.map (mrv base b))) := by
  obtain ⟨rfl, x, hl, hc⟩ := h
  have hg := hR.get hl (by simp)
  exact lv_iload F.1 F.2.1 hd hg ((hC _ _ _ _ hc).2 lsr H locs cells slots (hR.sk (ok_c (y := vi x) (hR.lv hl) hR.2.2.1)))
theorem z_iload_n {i : Fin 4} (F : mFix p s m args meth c D cI cZ cW base b k) (hC : SimC p l e RR s m args below meth c Q D cI cZ cW base b L xs k cE sE Me C) (hR : RS D cI cZ cW base b L xs s k cE sE Me ls st M lsr H locs cells slots) (hd : decode (mcode k) pc = .ok (.iload_n i, len)) (h : stepI call k (.iload_n i) len pc ls st M C) : W p l e RR s m args below meth c H locs cells slots Q (F0 m pc lsr (st.map (mrv base b))) := by
  obtain ⟨rfl, x, hl, hc⟩ := h
  have hg := hR.get hl (by simp)
  exact lv_iload_n F.1 F.2.1 hd rfl hg ((hC _ _ _ _ hc).2 lsr H locs cells slots (hR.sk (ok_c (y := vi x) (hR.lv hl) hR.2.2.1)))
theorem z_lload {i : Nat} (F : mFix p s m args meth c D cI cZ cW base b k) (hC : SimC p l e RR s m args below meth c Q D cI cZ cW base b L xs k cE sE Me C) (hR : RS D cI cZ cW base b L xs s k cE sE Me ls st M lsr H locs cells slots) (hd : decode (mcode k) pc = .ok (.lload i, len)) (h : stepI call k (.lload i) len pc ls st M C) : W p l e RR s m args below meth c H locs cells slots Q (F0 m pc lsr (st.map (mrv base b))) := by
  obtain ⟨rfl, x, hl, hc⟩ := h
  have hg := hR.get hl (by simp)
  exact lv_lload F.1 F.2.1 hd hg ((hC _ _ _ _ hc).2 lsr H locs cells slots (hR.sk (ok_c (y := vl x) (hR.lv hl) hR.2.2.1)))
theorem z_lload_n {i : Fin 4} (F : mFix p s m args meth c D cI cZ cW base b k) (hC : SimC p l e RR s m args below meth c Q D cI cZ cW base b L xs k cE sE Me C) (hR : RS D cI cZ cW base b L xs s k cE sE Me ls st M lsr H locs cells slots) (hd : decode (mcode k) pc = .ok (.lload_n i, len)) (h : stepI call k (.lload_n i) len pc ls st M C) : W p l e RR s m args below meth c H locs cells slots Q (F0 m pc lsr (st.map (mrv base b))) := by
  obtain ⟨rfl, x, hl, hc⟩ := h
  have hg := hR.get hl (by simp)
  exact lv_lload_n F.1 F.2.1 hd rfl hg ((hC _ _ _ _ hc).2 lsr H locs cells slots (hR.sk (ok_c (y := vl x) (hR.lv hl) hR.2.2.1)))
theorem z_aload {i : Nat} (F : mFix p s m args meth c D cI cZ cW base b k) (hC : SimC p l e RR s m args below meth c Q D cI cZ cW base b L xs k cE sE Me C) (hR : RS D cI cZ cW base b L xs s k cE sE Me ls st M lsr H locs cells slots) (hd : decode (mcode k) pc = .ok (.aload i, len)) (h : stepI call k (.aload i) len pc ls st M C) : W p l e RR s m args below meth c H locs cells slots Q (F0 m pc lsr (st.map (mrv base b))) := by
  obtain ⟨rfl, x, hl, hc⟩ := h
  have hg := hR.get hl (by simp)
  exact lv_aload F.1 F.2.1 hd hg ((hC _ _ _ _ hc).2 lsr H locs cells slots (hR.sk (ok_c (y := vr x) (hR.lv hl) hR.2.2.1)))
theorem z_aload_n {i : Fin 4} (F : mFix p s m args meth c D cI cZ cW base b k) (hC : SimC p l e RR s m args below meth c Q D cI cZ cW base b L xs k cE sE Me C) (hR : RS D cI cZ cW base b L xs s k cE sE Me ls st M lsr H locs cells slots) (hd : decode (mcode k) pc = .ok (.aload_n i, len)) (h : stepI call k (.aload_n i) len pc ls st M C) : W p l e RR s m args below meth c H locs cells slots Q (F0 m pc lsr (st.map (mrv base b))) := by
  obtain ⟨rfl, x, hl, hc⟩ := h
  have hg := hR.get hl (by simp)
  exact lv_aload_n F.1 F.2.1 hd rfl hg ((hC _ _ _ _ hc).2 lsr H locs cells slots (hR.sk (ok_c (y := vr x) (hR.lv hl) hR.2.2.1)))
theorem z_istore {i : Nat} (F : mFix p s m args meth c D cI cZ cW base b k) (hC : SimC p l e RR s m args below meth c Q D cI cZ cW base b L xs k cE sE Me C) (hR : RS D cI cZ cW base b L xs s k cE sE Me ls st M lsr H locs cells slots) (hd : decode (mcode k) pc = .ok (.istore i, len)) (h : stepI call k (.istore i) len pc ls st M C) : W p l e RR s m args below meth c H locs cells slots Q (F0 m pc lsr (st.map (mrv base b))) := by
  obtain ⟨rfl, x, t, rfl, hi, hc⟩ := h
  obtain ⟨ox, ot⟩ := ok_1 hR.2.2.1
  refine lv_istore (rest := t.map (mrv base b)) F.1 F.2.1 hd hR.1.has (hR.1.2.1 ▸ hi) rfl (fun ls2 hl2 => ?_)
  exact (hC _ _ _ _ hc).2 ls2 H locs cells slots (hR.lo (LRel_st1 (v := vi x) hR.1 hi (fun _ hq => hq) hl2) (ok_st1 hR.2.1 ox) ot)
theorem z_istore_n {i : Fin 4} (F : mFix p s m args meth c D cI cZ cW base b k) (hC : SimC p l e RR s m args below meth c Q D cI cZ cW base b L xs k cE sE Me C) (hR : RS D cI cZ cW base b L xs s k cE sE Me ls st M lsr H locs cells slots) (hd : decode (mcode k) pc = .ok (.istore_n i, len)) (h : stepI call k (.istore_n i) len pc ls st M C) : W p l e RR s m args below meth c H locs cells slots Q (F0 m pc lsr (st.map (mrv base b))) := by
  obtain ⟨rfl, x, t, rfl, hi, hc⟩ := h
  obtain ⟨ox, ot⟩ := ok_1 hR.2.2.1
  refine lv_istore_n (rest := t.map (mrv base b)) F.1 F.2.1 hd rfl hR.1.has (hR.1.2.1 ▸ hi) rfl (fun ls2 hl2 => ?_)
  exact (hC _ _ _ _ hc).2 ls2 H locs cells slots (hR.lo (LRel_st1 (v := vi x) hR.1 hi (fun _ hq => hq) hl2) (ok_st1 hR.2.1 ox) ot)
theorem z_astore {i : Nat} (F : mFix p s m args meth c D cI cZ cW base b k) (hC : SimC p l e RR s m args below meth c Q D cI cZ cW base b L xs k cE sE Me C) (hR : RS D cI cZ cW base b L xs s k cE sE Me ls st M lsr H locs cells slots) (hd : decode (mcode k) pc = .ok (.astore i, len)) (h : stepI call k (.astore i) len pc ls st M C) : W p l e RR s m args below meth c H locs cells slots Q (F0 m pc lsr (st.map (mrv base b))) := by
  obtain ⟨rfl, x, t, rfl, hi, hc⟩ := h
  obtain ⟨ox, ot⟩ := ok_1 hR.2.2.1
  refine lv_astore (rest := t.map (mrv base b)) F.1 F.2.1 hd hR.1.has (hR.1.2.1 ▸ hi) rfl (fun ls2 hl2 => ?_)
  exact (hC _ _ _ _ hc).2 ls2 H locs cells slots (hR.lo (LRel_st1 (v := vr x) hR.1 hi (fun _ hq => hq) hl2) (ok_st1 hR.2.1 ox) ot)
theorem z_astore_n {i : Fin 4} (F : mFix p s m args meth c D cI cZ cW base b k) (hC : SimC p l e RR s m args below meth c Q D cI cZ cW base b L xs k cE sE Me C) (hR : RS D cI cZ cW base b L xs s k cE sE Me ls st M lsr H locs cells slots) (hd : decode (mcode k) pc = .ok (.astore_n i, len)) (h : stepI call k (.astore_n i) len pc ls st M C) : W p l e RR s m args below meth c H locs cells slots Q (F0 m pc lsr (st.map (mrv base b))) := by
  obtain ⟨rfl, x, t, rfl, hi, hc⟩ := h
  obtain ⟨ox, ot⟩ := ok_1 hR.2.2.1
  refine lv_astore_n (rest := t.map (mrv base b)) F.1 F.2.1 hd rfl hR.1.has (hR.1.2.1 ▸ hi) rfl (fun ls2 hl2 => ?_)
  exact (hC _ _ _ _ hc).2 ls2 H locs cells slots (hR.lo (LRel_st1 (v := vr x) hR.1 hi (fun _ hq => hq) hl2) (ok_st1 hR.2.1 ox) ot)
theorem z_lstore {i : Nat} (F : mFix p s m args meth c D cI cZ cW base b k) (hC : SimC p l e RR s m args below meth c Q D cI cZ cW base b L xs k cE sE Me C) (hR : RS D cI cZ cW base b L xs s k cE sE Me ls st M lsr H locs cells slots) (hd : decode (mcode k) pc = .ok (.lstore i, len)) (h : stepI call k (.lstore i) len pc ls st M C) : W p l e RR s m args below meth c H locs cells slots Q (F0 m pc lsr (st.map (mrv base b))) := by
  obtain ⟨rfl, x, t, rfl, hi, hc⟩ := h
  obtain ⟨ox, ot⟩ := ok_1 hR.2.2.1
  refine lv_lstore (rest := t.map (mrv base b)) F.1 F.2.1 hd hR.1.has (hR.1.2.1 ▸ hi) rfl (fun ls2 hl2 => ?_)
  exact (hC _ _ _ _ hc).2 ls2 H locs cells slots (hR.lo (LRel_st2 (v := vl x) hR.1 hi hl2) (ok_st2 hR.2.1 ox) ot)
theorem z_lstore_n {i : Fin 4} (F : mFix p s m args meth c D cI cZ cW base b k) (hC : SimC p l e RR s m args below meth c Q D cI cZ cW base b L xs k cE sE Me C) (hR : RS D cI cZ cW base b L xs s k cE sE Me ls st M lsr H locs cells slots) (hd : decode (mcode k) pc = .ok (.lstore_n i, len)) (h : stepI call k (.lstore_n i) len pc ls st M C) : W p l e RR s m args below meth c H locs cells slots Q (F0 m pc lsr (st.map (mrv base b))) := by
  obtain ⟨rfl, x, t, rfl, hi, hc⟩ := h
  obtain ⟨ox, ot⟩ := ok_1 hR.2.2.1
  refine lv_lstore_n (rest := t.map (mrv base b)) F.1 F.2.1 hd rfl hR.1.has (hR.1.2.1 ▸ hi) rfl (fun ls2 hl2 => ?_)
  exact (hC _ _ _ _ hc).2 ls2 H locs cells slots (hR.lo (LRel_st2 (v := vl x) hR.1 hi hl2) (ok_st2 hR.2.1 ox) ot)
theorem z_iinc {i : Nat} {n : Int} (F : mFix p s m args meth c D cI cZ cW base b k) (hC : SimC p l e RR s m args below meth c Q D cI cZ cW base b L xs k cE sE Me C) (hR : RS D cI cZ cW base b L xs s k cE sE Me ls st M lsr H locs cells slots) (hd : decode (mcode k) pc = .ok (.iinc i n, len)) (h : stepI call k (.iinc i n) len pc ls st M C) : W p l e RR s m args below meth c H locs cells slots Q (F0 m pc lsr (st.map (mrv base b))) := by
  obtain ⟨rfl, x, hl, hc⟩ := h
  have hg := hR.get hl (by simp)
  have hi : i < ls.length := (List.getElem?_eq_some_iff.mp hl).1
  have hh : lv_has lsr (mmaxl k) ((i, mrv base b (vi x)) :: lvp base b ls) := ⟨hR.1.has.1, hR.1.has.2.1, fun q hq => by
    rcases List.mem_cons.mp hq with h1 | h1
    · rw [h1]; exact hg
    · exact hR.1.has.2.2 q h1⟩
  refine lv_iinc (k := 0) (rest := st.map (mrv base b)) F.1 F.2.1 hd hh rfl (oi_add x n) (hR.1.2.1 ▸ hi) rfl (fun ls2 hl2 => ?_)
  exact (hC _ _ _ _ hc).2 ls2 H locs cells slots (hR.lo (LRel_st1 (v := vi (wI (x + n))) hR.1 hi (fun _ hq => List.mem_cons_of_mem _ hq) hl2) (ok_st1 hR.2.1 (wI_in _)) hR.2.2.1)
theorem z_iadd  (F : mFix p s m args meth c D cI cZ cW base b k) (hC : SimC p l e RR s m args below meth c Q D cI cZ cW base b L xs k cE sE Me C) (hR : RS D cI cZ cW base b L xs s k cE sE Me ls st M lsr H locs cells slots) (hd : decode (mcode k) pc = .ok (.iadd, len)) (h : stepI call k (.iadd) len pc ls st M C) : W p l e RR s m args below meth c H locs cells slots Q (F0 m pc lsr (st.map (mrv base b))) := by
  obtain ⟨rfl, x, y, t, rfl, hc⟩ := h
  obtain ⟨oy, ox, ot⟩ := ok_2 hR.2.2.1
  have hx := ((hC _ _ _ _ hc).2 lsr H locs cells slots (hR.sk (ok_c (y := vi (wI (x + y))) (wI_in _) ot)))
  exact lv_iadd (x := Int32.ofInt x) (y := Int32.ofInt y) (rest := t.map (mrv base b)) F.1 F.2.1 hd (by rw [oi_add]; exact hx)
theorem z_isub  (F : mFix p s m args meth c D cI cZ cW base b k) (hC : SimC p l e RR s m args below meth c Q D cI cZ cW base b L xs k cE sE Me C) (hR : RS D cI cZ cW base b L xs s k cE sE Me ls st M lsr H locs cells slots) (hd : decode (mcode k) pc = .ok (.isub, len)) (h : stepI call k (.isub) len pc ls st M C) : W p l e RR s m args below meth c H locs cells slots Q (F0 m pc lsr (st.map (mrv base b))) := by
  obtain ⟨rfl, x, y, t, rfl, hc⟩ := h
  obtain ⟨oy, ox, ot⟩ := ok_2 hR.2.2.1
  have hx := ((hC _ _ _ _ hc).2 lsr H locs cells slots (hR.sk (ok_c (y := vi (wI (x - y))) (wI_in _) ot)))
  exact lv_isub (x := Int32.ofInt x) (y := Int32.ofInt y) (rest := t.map (mrv base b)) F.1 F.2.1 hd (by rw [oi_sub]; exact hx)
theorem z_imul  (F : mFix p s m args meth c D cI cZ cW base b k) (hC : SimC p l e RR s m args below meth c Q D cI cZ cW base b L xs k cE sE Me C) (hR : RS D cI cZ cW base b L xs s k cE sE Me ls st M lsr H locs cells slots) (hd : decode (mcode k) pc = .ok (.imul, len)) (h : stepI call k (.imul) len pc ls st M C) : W p l e RR s m args below meth c H locs cells slots Q (F0 m pc lsr (st.map (mrv base b))) := by
  obtain ⟨rfl, x, y, t, rfl, hc⟩ := h
  obtain ⟨oy, ox, ot⟩ := ok_2 hR.2.2.1
  have hx := ((hC _ _ _ _ hc).2 lsr H locs cells slots (hR.sk (ok_c (y := vi (wI (x * y))) (wI_in _) ot)))
  exact lv_imul (x := Int32.ofInt x) (y := Int32.ofInt y) (rest := t.map (mrv base b)) F.1 F.2.1 hd (by rw [oi_mul]; exact hx)
theorem z_idiv  (F : mFix p s m args meth c D cI cZ cW base b k) (hC : SimC p l e RR s m args below meth c Q D cI cZ cW base b L xs k cE sE Me C) (hR : RS D cI cZ cW base b L xs s k cE sE Me ls st M lsr H locs cells slots) (hd : decode (mcode k) pc = .ok (.idiv, len)) (h : stepI call k (.idiv) len pc ls st M C) : W p l e RR s m args below meth c H locs cells slots Q (F0 m pc lsr (st.map (mrv base b))) := by
  obtain ⟨rfl, x, y, t, rfl, hy, hc⟩ := h
  obtain ⟨oy, ox, ot⟩ := ok_2 hR.2.2.1
  have hx := ((hC _ _ _ _ hc).2 lsr H locs cells slots (hR.sk (ok_c (y := vi (wI (x.tdiv y))) (wI_in _) ot)))
  exact lv_idiv (x := Int32.ofInt x) (y := Int32.ofInt y) (rest := t.map (mrv base b)) F.1 F.2.1 hd (oi_n0 oy hy) (by rw [oi_div ox oy]; exact hx)
theorem z_irem  (F : mFix p s m args meth c D cI cZ cW base b k) (hC : SimC p l e RR s m args below meth c Q D cI cZ cW base b L xs k cE sE Me C) (hR : RS D cI cZ cW base b L xs s k cE sE Me ls st M lsr H locs cells slots) (hd : decode (mcode k) pc = .ok (.irem, len)) (h : stepI call k (.irem) len pc ls st M C) : W p l e RR s m args below meth c H locs cells slots Q (F0 m pc lsr (st.map (mrv base b))) := by
  obtain ⟨rfl, x, y, t, rfl, hy, hc⟩ := h
  obtain ⟨oy, ox, ot⟩ := ok_2 hR.2.2.1
  have hx := ((hC _ _ _ _ hc).2 lsr H locs cells slots (hR.sk (ok_c (y := vi (x.tmod y)) (oi_tm ox hy oy) ot)))
  exact lv_irem (x := Int32.ofInt x) (y := Int32.ofInt y) (rest := t.map (mrv base b)) F.1 F.2.1 hd (oi_n0 oy hy) (by rw [oi_rem ox oy]; exact hx)
theorem z_iand  (F : mFix p s m args meth c D cI cZ cW base b k) (hC : SimC p l e RR s m args below meth c Q D cI cZ cW base b L xs k cE sE Me C) (hR : RS D cI cZ cW base b L xs s k cE sE Me ls st M lsr H locs cells slots) (hd : decode (mcode k) pc = .ok (.iand, len)) (h : stepI call k (.iand) len pc ls st M C) : W p l e RR s m args below meth c H locs cells slots Q (F0 m pc lsr (st.map (mrv base b))) := by
  obtain ⟨rfl, x, y, t, rfl, hc⟩ := h
  obtain ⟨oy, ox, ot⟩ := ok_2 hR.2.2.1
  have hx := ((hC _ _ _ _ hc).2 lsr H locs cells slots (hR.sk (ok_c (y := vi (aNd x y)) (oi_in _) ot)))
  have hx2 : W p l e RR s m args below meth c H locs cells slots Q (F0 m (pc + 1) lsr (.int (Int32.ofInt (aNd x y)) :: t.map (mrv base b))) := hx
  unfold aNd at hx2
  rw [oi_of] at hx2
  exact lv_iand (x := Int32.ofInt x) (y := Int32.ofInt y) (rest := t.map (mrv base b)) F.1 F.2.1 hd hx2
theorem z_ixor  (F : mFix p s m args meth c D cI cZ cW base b k) (hC : SimC p l e RR s m args below meth c Q D cI cZ cW base b L xs k cE sE Me C) (hR : RS D cI cZ cW base b L xs s k cE sE Me ls st M lsr H locs cells slots) (hd : decode (mcode k) pc = .ok (.ixor, len)) (h : stepI call k (.ixor) len pc ls st M C) : W p l e RR s m args below meth c H locs cells slots Q (F0 m pc lsr (st.map (mrv base b))) := by
  obtain ⟨rfl, x, y, t, rfl, hc⟩ := h
  obtain ⟨oy, ox, ot⟩ := ok_2 hR.2.2.1
  have hx := ((hC _ _ _ _ hc).2 lsr H locs cells slots (hR.sk (ok_c (y := vi (xOr x y)) (oi_in _) ot)))
  have hx2 : W p l e RR s m args below meth c H locs cells slots Q (F0 m (pc + 1) lsr (.int (Int32.ofInt (xOr x y)) :: t.map (mrv base b))) := hx
  unfold xOr at hx2
  rw [oi_of] at hx2
  exact lv_ixor (x := Int32.ofInt x) (y := Int32.ofInt y) (rest := t.map (mrv base b)) F.1 F.2.1 hd hx2
theorem z_ishl  (F : mFix p s m args meth c D cI cZ cW base b k) (hC : SimC p l e RR s m args below meth c Q D cI cZ cW base b L xs k cE sE Me C) (hR : RS D cI cZ cW base b L xs s k cE sE Me ls st M lsr H locs cells slots) (hd : decode (mcode k) pc = .ok (.ishl, len)) (h : stepI call k (.ishl) len pc ls st M C) : W p l e RR s m args below meth c H locs cells slots Q (F0 m pc lsr (st.map (mrv base b))) := by
  obtain ⟨rfl, x, y, t, rfl, hc⟩ := h
  obtain ⟨oy, ox, ot⟩ := ok_2 hR.2.2.1
  have hx := ((hC _ _ _ _ hc).2 lsr H locs cells slots (hR.sk (ok_c (y := vi (sHl x y)) (oi_in _) ot)))
  have hx2 : W p l e RR s m args below meth c H locs cells slots Q (F0 m (pc + 1) lsr (.int (Int32.ofInt (sHl x y)) :: t.map (mrv base b))) := hx
  unfold sHl at hx2
  rw [oi_of] at hx2
  exact lv_ishl (x := Int32.ofInt x) (y := Int32.ofInt y) (rest := t.map (mrv base b)) F.1 F.2.1 hd hx2
theorem z_ishr  (F : mFix p s m args meth c D cI cZ cW base b k) (hC : SimC p l e RR s m args below meth c Q D cI cZ cW base b L xs k cE sE Me C) (hR : RS D cI cZ cW base b L xs s k cE sE Me ls st M lsr H locs cells slots) (hd : decode (mcode k) pc = .ok (.ishr, len)) (h : stepI call k (.ishr) len pc ls st M C) : W p l e RR s m args below meth c H locs cells slots Q (F0 m pc lsr (st.map (mrv base b))) := by
  obtain ⟨rfl, x, y, t, rfl, hc⟩ := h
  obtain ⟨oy, ox, ot⟩ := ok_2 hR.2.2.1
  have hx := ((hC _ _ _ _ hc).2 lsr H locs cells slots (hR.sk (ok_c (y := vi (sHr x y)) (oi_in _) ot)))
  have hx2 : W p l e RR s m args below meth c H locs cells slots Q (F0 m (pc + 1) lsr (.int (Int32.ofInt (sHr x y)) :: t.map (mrv base b))) := hx
  unfold sHr at hx2
  rw [oi_of] at hx2
  exact lv_ishr (x := Int32.ofInt x) (y := Int32.ofInt y) (rest := t.map (mrv base b)) F.1 F.2.1 hd hx2
theorem z_iushr  (F : mFix p s m args meth c D cI cZ cW base b k) (hC : SimC p l e RR s m args below meth c Q D cI cZ cW base b L xs k cE sE Me C) (hR : RS D cI cZ cW base b L xs s k cE sE Me ls st M lsr H locs cells slots) (hd : decode (mcode k) pc = .ok (.iushr, len)) (h : stepI call k (.iushr) len pc ls st M C) : W p l e RR s m args below meth c H locs cells slots Q (F0 m pc lsr (st.map (mrv base b))) := by
  obtain ⟨rfl, x, y, t, rfl, hc⟩ := h
  obtain ⟨oy, ox, ot⟩ := ok_2 hR.2.2.1
  exact lv_iushr (x := Int32.ofInt x) (y := Int32.ofInt y) (v := Int32.ofInt (sUr x y)) (rest := t.map (mrv base b)) F.1 F.2.1 hd (by unfold sUr; rw [oi_of]) ((hC _ _ _ _ hc).2 lsr H locs cells slots (hR.sk (ok_c (y := vi (sUr x y)) (oi_in _) ot)))
theorem z_ineg  (F : mFix p s m args meth c D cI cZ cW base b k) (hC : SimC p l e RR s m args below meth c Q D cI cZ cW base b L xs k cE sE Me C) (hR : RS D cI cZ cW base b L xs s k cE sE Me ls st M lsr H locs cells slots) (hd : decode (mcode k) pc = .ok (.ineg, len)) (h : stepI call k (.ineg) len pc ls st M C) : W p l e RR s m args below meth c H locs cells slots Q (F0 m pc lsr (st.map (mrv base b))) := by
  obtain ⟨rfl, x, t, rfl, hc⟩ := h
  obtain ⟨ox, ot⟩ := ok_1 hR.2.2.1
  have hx := ((hC _ _ _ _ hc).2 lsr H locs cells slots (hR.sk (ok_c (y := vi (wI (-x))) (wI_in _) ot)))
  exact lv_ineg (x := Int32.ofInt x) (rest := t.map (mrv base b)) F.1 F.2.1 hd (by rw [oi_neg]; exact hx)
theorem z_ladd  (F : mFix p s m args meth c D cI cZ cW base b k) (hC : SimC p l e RR s m args below meth c Q D cI cZ cW base b L xs k cE sE Me C) (hR : RS D cI cZ cW base b L xs s k cE sE Me ls st M lsr H locs cells slots) (hd : decode (mcode k) pc = .ok (.ladd, len)) (h : stepI call k (.ladd) len pc ls st M C) : W p l e RR s m args below meth c H locs cells slots Q (F0 m pc lsr (st.map (mrv base b))) := by
  obtain ⟨rfl, x, y, t, rfl, hc⟩ := h
  obtain ⟨oy, ox, ot⟩ := ok_2 hR.2.2.1
  have hx := ((hC _ _ _ _ hc).2 lsr H locs cells slots (hR.sk (ok_c (y := vl (wL (x + y))) (wL_in _) ot)))
  exact lv_ladd (x := Int64.ofInt x) (y := Int64.ofInt y) (rest := t.map (mrv base b)) F.1 F.2.1 hd (by rw [oL_add]; exact hx)
theorem z_lsub  (F : mFix p s m args meth c D cI cZ cW base b k) (hC : SimC p l e RR s m args below meth c Q D cI cZ cW base b L xs k cE sE Me C) (hR : RS D cI cZ cW base b L xs s k cE sE Me ls st M lsr H locs cells slots) (hd : decode (mcode k) pc = .ok (.lsub, len)) (h : stepI call k (.lsub) len pc ls st M C) : W p l e RR s m args below meth c H locs cells slots Q (F0 m pc lsr (st.map (mrv base b))) := by
  obtain ⟨rfl, x, y, t, rfl, hc⟩ := h
  obtain ⟨oy, ox, ot⟩ := ok_2 hR.2.2.1
  have hx := ((hC _ _ _ _ hc).2 lsr H locs cells slots (hR.sk (ok_c (y := vl (wL (x - y))) (wL_in _) ot)))
  exact lv_lsub (x := Int64.ofInt x) (y := Int64.ofInt y) (rest := t.map (mrv base b)) F.1 F.2.1 hd (by rw [oL_sub]; exact hx)
theorem z_lmul  (F : mFix p s m args meth c D cI cZ cW base b k) (hC : SimC p l e RR s m args below meth c Q D cI cZ cW base b L xs k cE sE Me C) (hR : RS D cI cZ cW base b L xs s k cE sE Me ls st M lsr H locs cells slots) (hd : decode (mcode k) pc = .ok (.lmul, len)) (h : stepI call k (.lmul) len pc ls st M C) : W p l e RR s m args below meth c H locs cells slots Q (F0 m pc lsr (st.map (mrv base b))) := by
  obtain ⟨rfl, x, y, t, rfl, hc⟩ := h
  obtain ⟨oy, ox, ot⟩ := ok_2 hR.2.2.1
  have hx := ((hC _ _ _ _ hc).2 lsr H locs cells slots (hR.sk (ok_c (y := vl (wL (x * y))) (wL_in _) ot)))
  exact lv_lmul (x := Int64.ofInt x) (y := Int64.ofInt y) (rest := t.map (mrv base b)) F.1 F.2.1 hd (by rw [oL_mul]; exact hx)
theorem z_ldiv  (F : mFix p s m args meth c D cI cZ cW base b k) (hC : SimC p l e RR s m args below meth c Q D cI cZ cW base b L xs k cE sE Me C) (hR : RS D cI cZ cW base b L xs s k cE sE Me ls st M lsr H locs cells slots) (hd : decode (mcode k) pc = .ok (.ldiv, len)) (h : stepI call k (.ldiv) len pc ls st M C) : W p l e RR s m args below meth c H locs cells slots Q (F0 m pc lsr (st.map (mrv base b))) := by
  obtain ⟨rfl, x, y, t, rfl, hy, hc⟩ := h
  obtain ⟨oy, ox, ot⟩ := ok_2 hR.2.2.1
  have hx := ((hC _ _ _ _ hc).2 lsr H locs cells slots (hR.sk (ok_c (y := vl (wL (x.tdiv y))) (wL_in _) ot)))
  exact lv_ldiv (x := Int64.ofInt x) (y := Int64.ofInt y) (rest := t.map (mrv base b)) F.1 F.2.1 hd (oL_n0 oy hy) (by rw [oL_div ox oy]; exact hx)
theorem z_lrem  (F : mFix p s m args meth c D cI cZ cW base b k) (hC : SimC p l e RR s m args below meth c Q D cI cZ cW base b L xs k cE sE Me C) (hR : RS D cI cZ cW base b L xs s k cE sE Me ls st M lsr H locs cells slots) (hd : decode (mcode k) pc = .ok (.lrem, len)) (h : stepI call k (.lrem) len pc ls st M C) : W p l e RR s m args below meth c H locs cells slots Q (F0 m pc lsr (st.map (mrv base b))) := by
  obtain ⟨rfl, x, y, t, rfl, hy, hc⟩ := h
  obtain ⟨oy, ox, ot⟩ := ok_2 hR.2.2.1
  have hx := ((hC _ _ _ _ hc).2 lsr H locs cells slots (hR.sk (ok_c (y := vl (x.tmod y)) (oL_tm ox hy oy) ot)))
  exact lv_lrem (x := Int64.ofInt x) (y := Int64.ofInt y) (rest := t.map (mrv base b)) F.1 F.2.1 hd (oL_n0 oy hy) (by rw [oL_rem ox oy]; exact hx)
theorem z_land  (F : mFix p s m args meth c D cI cZ cW base b k) (hC : SimC p l e RR s m args below meth c Q D cI cZ cW base b L xs k cE sE Me C) (hR : RS D cI cZ cW base b L xs s k cE sE Me ls st M lsr H locs cells slots) (hd : decode (mcode k) pc = .ok (.land, len)) (h : stepI call k (.land) len pc ls st M C) : W p l e RR s m args below meth c H locs cells slots Q (F0 m pc lsr (st.map (mrv base b))) := by
  obtain ⟨rfl, x, y, t, rfl, hc⟩ := h
  obtain ⟨oy, ox, ot⟩ := ok_2 hR.2.2.1
  have hx := ((hC _ _ _ _ hc).2 lsr H locs cells slots (hR.sk (ok_c (y := vl (lAnd x y)) (oL_in _) ot)))
  have hx2 : W p l e RR s m args below meth c H locs cells slots Q (F0 m (pc + 1) lsr (.long (Int64.ofInt (lAnd x y)) :: t.map (mrv base b))) := hx
  unfold lAnd at hx2
  rw [oL_of] at hx2
  exact lv_land (x := Int64.ofInt x) (y := Int64.ofInt y) (rest := t.map (mrv base b)) F.1 F.2.1 hd hx2
theorem z_lor  (F : mFix p s m args meth c D cI cZ cW base b k) (hC : SimC p l e RR s m args below meth c Q D cI cZ cW base b L xs k cE sE Me C) (hR : RS D cI cZ cW base b L xs s k cE sE Me ls st M lsr H locs cells slots) (hd : decode (mcode k) pc = .ok (.lor, len)) (h : stepI call k (.lor) len pc ls st M C) : W p l e RR s m args below meth c H locs cells slots Q (F0 m pc lsr (st.map (mrv base b))) := by
  obtain ⟨rfl, x, y, t, rfl, hc⟩ := h
  obtain ⟨oy, ox, ot⟩ := ok_2 hR.2.2.1
  have hx := ((hC _ _ _ _ hc).2 lsr H locs cells slots (hR.sk (ok_c (y := vl (lOr x y)) (oL_in _) ot)))
  have hx2 : W p l e RR s m args below meth c H locs cells slots Q (F0 m (pc + 1) lsr (.long (Int64.ofInt (lOr x y)) :: t.map (mrv base b))) := hx
  unfold lOr at hx2
  rw [oL_of] at hx2
  exact lv_lor (x := Int64.ofInt x) (y := Int64.ofInt y) (rest := t.map (mrv base b)) F.1 F.2.1 hd hx2
theorem z_lshl  (F : mFix p s m args meth c D cI cZ cW base b k) (hC : SimC p l e RR s m args below meth c Q D cI cZ cW base b L xs k cE sE Me C) (hR : RS D cI cZ cW base b L xs s k cE sE Me ls st M lsr H locs cells slots) (hd : decode (mcode k) pc = .ok (.lshl, len)) (h : stepI call k (.lshl) len pc ls st M C) : W p l e RR s m args below meth c H locs cells slots Q (F0 m pc lsr (st.map (mrv base b))) := by
  obtain ⟨rfl, x, y, t, rfl, hc⟩ := h
  obtain ⟨oy, ox, ot⟩ := ok_2 hR.2.2.1
  exact lv_lshl (x := Int64.ofInt x) (y := Int32.ofInt y) (v := Int64.ofInt (lShl x y)) (rest := t.map (mrv base b)) F.1 F.2.1 hd (by unfold lShl; rw [oL_of]) ((hC _ _ _ _ hc).2 lsr H locs cells slots (hR.sk (ok_c (y := vl (lShl x y)) (oL_in _) ot)))
theorem z_lneg  (F : mFix p s m args meth c D cI cZ cW base b k) (hC : SimC p l e RR s m args below meth c Q D cI cZ cW base b L xs k cE sE Me C) (hR : RS D cI cZ cW base b L xs s k cE sE Me ls st M lsr H locs cells slots) (hd : decode (mcode k) pc = .ok (.lneg, len)) (h : stepI call k (.lneg) len pc ls st M C) : W p l e RR s m args below meth c H locs cells slots Q (F0 m pc lsr (st.map (mrv base b))) := by
  obtain ⟨rfl, x, t, rfl, hc⟩ := h
  obtain ⟨ox, ot⟩ := ok_1 hR.2.2.1
  have hx := ((hC _ _ _ _ hc).2 lsr H locs cells slots (hR.sk (ok_c (y := vl (wL (-x))) (wL_in _) ot)))
  exact lv_lneg (x := Int64.ofInt x) (rest := t.map (mrv base b)) F.1 F.2.1 hd (by rw [oL_neg]; exact hx)
theorem z_lcmp  (F : mFix p s m args meth c D cI cZ cW base b k) (hC : SimC p l e RR s m args below meth c Q D cI cZ cW base b L xs k cE sE Me C) (hR : RS D cI cZ cW base b L xs s k cE sE Me ls st M lsr H locs cells slots) (hd : decode (mcode k) pc = .ok (.lcmp, len)) (h : stepI call k (.lcmp) len pc ls st M C) : W p l e RR s m args below meth c H locs cells slots Q (F0 m pc lsr (st.map (mrv base b))) := by
  obtain ⟨rfl, x, y, t, rfl, hc⟩ := h
  obtain ⟨oy, ox, ot⟩ := ok_2 hR.2.2.1
  have hx := ((hC _ _ _ _ hc).2 lsr H locs cells slots (hR.sk (ok_c (y := vi (lCm x y)) (by unfold lCm; repeat (first | split | (constructor <;> decide))) ot)))
  exact W.lcmp (x := Int64.ofInt x) (y := Int64.ofInt y) (rest := t.map (mrv base b)) F.1 F.2.1 hd (by rw [oL_cm ox oy]; exact hx)
theorem z_i2l  (F : mFix p s m args meth c D cI cZ cW base b k) (hC : SimC p l e RR s m args below meth c Q D cI cZ cW base b L xs k cE sE Me C) (hR : RS D cI cZ cW base b L xs s k cE sE Me ls st M lsr H locs cells slots) (hd : decode (mcode k) pc = .ok (.i2l, len)) (h : stepI call k (.i2l) len pc ls st M C) : W p l e RR s m args below meth c H locs cells slots Q (F0 m pc lsr (st.map (mrv base b))) := by
  obtain ⟨rfl, x, t, rfl, hc⟩ := h
  obtain ⟨ox, ot⟩ := ok_1 hR.2.2.1
  have ox2 : inI x := ox
  exact lv_i2l (x := Int32.ofInt x) (rest := t.map (mrv base b)) F.1 F.2.1 hd (oi_l ox2) ((hC _ _ _ _ hc).2 lsr H locs cells slots (hR.sk (ok_c (y := vl x) (by unfold inI at ox2; show inL x; unfold inL; omega) ot)))
theorem z_l2i  (F : mFix p s m args meth c D cI cZ cW base b k) (hC : SimC p l e RR s m args below meth c Q D cI cZ cW base b L xs k cE sE Me C) (hR : RS D cI cZ cW base b L xs s k cE sE Me ls st M lsr H locs cells slots) (hd : decode (mcode k) pc = .ok (.l2i, len)) (h : stepI call k (.l2i) len pc ls st M C) : W p l e RR s m args below meth c H locs cells slots Q (F0 m pc lsr (st.map (mrv base b))) := by
  obtain ⟨rfl, x, t, rfl, hc⟩ := h
  obtain ⟨ox, ot⟩ := ok_1 hR.2.2.1
  exact lv_l2i (x := Int64.ofInt x) (rest := t.map (mrv base b)) F.1 F.2.1 hd (oL_i ox) ((hC _ _ _ _ hc).2 lsr H locs cells slots (hR.sk (ok_c (y := vi (wI x)) (wI_in _) ot)))
theorem cat1 {base b : Nat} {v : MV} (h : wd v = 1) : (mrv base b v).category = 1 := by
  match v, h with
  | Sum.inl x, _ => rfl
  | Sum.inr (Sum.inr none), _ => rfl
  | Sum.inr (Sum.inr (some a)), _ => rfl
theorem z_dup  (F : mFix p s m args meth c D cI cZ cW base b k) (hC : SimC p l e RR s m args below meth c Q D cI cZ cW base b L xs k cE sE Me C) (hR : RS D cI cZ cW base b L xs s k cE sE Me ls st M lsr H locs cells slots) (hd : decode (mcode k) pc = .ok (.dup, len)) (h : stepI call k (.dup) len pc ls st M C) : W p l e RR s m args below meth c H locs cells slots Q (F0 m pc lsr (st.map (mrv base b))) := by
  obtain ⟨rfl, v, t, rfl, hw, hc⟩ := h
  obtain ⟨ox, ot⟩ := ok_1 hR.2.2.1
  exact lv_dup (va := mrv base b v) (rest := t.map (mrv base b)) F.1 F.2.1 hd (cat1 hw) ((hC _ _ _ _ hc).2 lsr H locs cells slots (hR.sk (ok_c ox (ok_c ox ot))))
theorem z_dup2  (F : mFix p s m args meth c D cI cZ cW base b k) (hC : SimC p l e RR s m args below meth c Q D cI cZ cW base b L xs k cE sE Me C) (hR : RS D cI cZ cW base b L xs s k cE sE Me ls st M lsr H locs cells slots) (hd : decode (mcode k) pc = .ok (.dup2, len)) (h : stepI call k (.dup2) len pc ls st M C) : W p l e RR s m args below meth c H locs cells slots Q (F0 m pc lsr (st.map (mrv base b))) := by
  obtain ⟨rfl, v, w, t, rfl, hw, hw2, hc⟩ := h
  obtain ⟨ox, oy, ot⟩ := ok_2 hR.2.2.1
  exact lv_dup2_11 (va := mrv base b v) (vb := mrv base b w) (rest := t.map (mrv base b)) F.1 F.2.1 hd (cat1 hw) (cat1 hw2) ((hC _ _ _ _ hc).2 lsr H locs cells slots (hR.sk (ok_c ox (ok_c oy (ok_c ox (ok_c oy ot))))))
theorem z_pop  (F : mFix p s m args meth c D cI cZ cW base b k) (hC : SimC p l e RR s m args below meth c Q D cI cZ cW base b L xs k cE sE Me C) (hR : RS D cI cZ cW base b L xs s k cE sE Me ls st M lsr H locs cells slots) (hd : decode (mcode k) pc = .ok (.pop, len)) (h : stepI call k (.pop) len pc ls st M C) : W p l e RR s m args below meth c H locs cells slots Q (F0 m pc lsr (st.map (mrv base b))) := by
  obtain ⟨rfl, v, t, rfl, hw, hc⟩ := h
  obtain ⟨ox, ot⟩ := ok_1 hR.2.2.1
  exact lv_pop (va := mrv base b v) (rest := t.map (mrv base b)) F.1 F.2.1 hd (cat1 hw) ((hC _ _ _ _ hc).2 lsr H locs cells slots (hR.sk (ot)))
theorem cat2 {base b : Nat} {v : MV} (h : wd v = 2) : (mrv base b v).category = 2 := by
  match v, h with
  | Sum.inr (Sum.inl x), _ => rfl
theorem z_pop2  (F : mFix p s m args meth c D cI cZ cW base b k) (hC : SimC p l e RR s m args below meth c Q D cI cZ cW base b L xs k cE sE Me C) (hR : RS D cI cZ cW base b L xs s k cE sE Me ls st M lsr H locs cells slots) (hd : decode (mcode k) pc = .ok (.pop2, len)) (h : stepI call k (.pop2) len pc ls st M C) : W p l e RR s m args below meth c H locs cells slots Q (F0 m pc lsr (st.map (mrv base b))) := by
  obtain ⟨rfl, v, t, rfl, hw, hc⟩ := h
  obtain ⟨ox, ot⟩ := ok_1 hR.2.2.1
  exact lv_pop2_2 (va := mrv base b v) (rest := t.map (mrv base b)) F.1 F.2.1 hd (cat2 hw) ((hC _ _ _ _ hc).2 lsr H locs cells slots (hR.sk (ot)))
theorem z_goto {off : Int} (F : mFix p s m args meth c D cI cZ cW base b k) (hC : SimC p l e RR s m args below meth c Q D cI cZ cW base b L xs k cE sE Me C) (hR : RS D cI cZ cW base b L xs s k cE sE Me ls st M lsr H locs cells slots) (hd : decode (mcode k) pc = .ok (.goto off, len)) (h : stepI call k (.goto off) len pc ls st M C) : W p l e RR s m args below meth c H locs cells slots Q (F0 m pc lsr (st.map (mrv base b))) := by
  obtain ⟨rfl, tgt, ht, hc⟩ := h
  exact lv_goto F.1 F.2.1 hd ht ((hC _ _ _ _ hc).2 lsr H locs cells slots (hR.sk (hR.2.2.1)))
theorem z_if_icmp {cc : Jvm.ClassFile.Cond} {off : Int} (F : mFix p s m args meth c D cI cZ cW base b k) (hC : SimC p l e RR s m args below meth c Q D cI cZ cW base b L xs k cE sE Me C) (hR : RS D cI cZ cW base b L xs s k cE sE Me ls st M lsr H locs cells slots) (hd : decode (mcode k) pc = .ok (.if_icmp cc off, len)) (h : stepI call k (.if_icmp cc off) len pc ls st M C) : W p l e RR s m args below meth c H locs cells slots Q (F0 m pc lsr (st.map (mrv base b))) := by
  obtain ⟨rfl, x, y, t, rfl, tgt, ht, ct, cf⟩ := h
  obtain ⟨oy, ox, ot⟩ := ok_2 hR.2.2.1
  cases cc with
  | eq => exact lv_icmp_eq (x := Int32.ofInt x) (y := Int32.ofInt y) (rest := t.map (mrv base b)) F.1 F.2.1 hd ht (fun q => (hC _ _ _ _ (ct ((oi_inj ox oy).mp q))).2 lsr H locs cells slots (hR.sk ot)) (fun q => (hC _ _ _ _ (cf (fun q2 => q ((oi_inj ox oy).mpr q2)))).2 lsr H locs cells slots (hR.sk ot))
  | ne => exact lv_icmp_ne (x := Int32.ofInt x) (y := Int32.ofInt y) (rest := t.map (mrv base b)) F.1 F.2.1 hd ht (fun q => (hC _ _ _ _ (ct (fun q2 => q ((oi_inj ox oy).mpr q2)))).2 lsr H locs cells slots (hR.sk ot)) (fun q => (hC _ _ _ _ (cf (fun q2 => q2 ((oi_inj ox oy).mp q)))).2 lsr H locs cells slots (hR.sk ot))
  | lt => exact lv_icmp_lt (x := Int32.ofInt x) (y := Int32.ofInt y) (rest := t.map (mrv base b)) F.1 F.2.1 hd ht (fun q => (hC _ _ _ _ (ct ((oi_lt ox oy).mp q))).2 lsr H locs cells slots (hR.sk ot)) (fun q => (hC _ _ _ _ (cf (fun q2 => q ((oi_lt ox oy).mpr q2)))).2 lsr H locs cells slots (hR.sk ot))
  | ge => exact lv_icmp_ge (x := Int32.ofInt x) (y := Int32.ofInt y) (rest := t.map (mrv base b)) F.1 F.2.1 hd ht (fun q => (hC _ _ _ _ (ct ((oi_le oy ox).mp q))).2 lsr H locs cells slots (hR.sk ot)) (fun q => (hC _ _ _ _ (cf (fun q2 => q ((oi_le oy ox).mpr q2)))).2 lsr H locs cells slots (hR.sk ot))
  | gt => exact lv_icmp_gt (x := Int32.ofInt x) (y := Int32.ofInt y) (rest := t.map (mrv base b)) F.1 F.2.1 hd ht (fun q => (hC _ _ _ _ (ct ((oi_lt oy ox).mp q))).2 lsr H locs cells slots (hR.sk ot)) (fun q => (hC _ _ _ _ (cf (fun q2 => q ((oi_lt oy ox).mpr q2)))).2 lsr H locs cells slots (hR.sk ot))
  | le => exact lv_icmp_le (x := Int32.ofInt x) (y := Int32.ofInt y) (rest := t.map (mrv base b)) F.1 F.2.1 hd ht (fun q => (hC _ _ _ _ (ct ((oi_le ox oy).mp q))).2 lsr H locs cells slots (hR.sk ot)) (fun q => (hC _ _ _ _ (cf (fun q2 => q ((oi_le ox oy).mpr q2)))).2 lsr H locs cells slots (hR.sk ot))
theorem z_ifCond {cc : Jvm.ClassFile.Cond} {off : Int} (F : mFix p s m args meth c D cI cZ cW base b k) (hC : SimC p l e RR s m args below meth c Q D cI cZ cW base b L xs k cE sE Me C) (hR : RS D cI cZ cW base b L xs s k cE sE Me ls st M lsr H locs cells slots) (hd : decode (mcode k) pc = .ok (.ifCond cc off, len)) (h : stepI call k (.ifCond cc off) len pc ls st M C) : W p l e RR s m args below meth c H locs cells slots Q (F0 m pc lsr (st.map (mrv base b))) := by
  obtain ⟨rfl, x, t, rfl, tgt, ht, ct, cf⟩ := h
  obtain ⟨ox, ot⟩ := ok_1 hR.2.2.1
  have o0 : inI 0 := ⟨by decide, by decide⟩
  cases cc with
  | eq => exact lv_if_eq (x := Int32.ofInt x) (rest := t.map (mrv base b)) F.1 F.2.1 hd ht (fun q => (hC _ _ _ _ (ct ((oi_inj ox o0).mp (oi_0 ▸ q)))).2 lsr H locs cells slots (hR.sk ot)) (fun q => (hC _ _ _ _ (cf (fun q2 => q (oi_0 ▸ (oi_inj ox o0).mpr q2)))).2 lsr H locs cells slots (hR.sk ot))
  | ne => exact lv_if_ne (x := Int32.ofInt x) (rest := t.map (mrv base b)) F.1 F.2.1 hd ht (fun q => (hC _ _ _ _ (ct (fun q2 => q (oi_0 ▸ (oi_inj ox o0).mpr q2)))).2 lsr H locs cells slots (hR.sk ot)) (fun q => (hC _ _ _ _ (cf (fun q2 => q2 ((oi_inj ox o0).mp (oi_0 ▸ q))))).2 lsr H locs cells slots (hR.sk ot))
  | lt => exact lv_if_lt (x := Int32.ofInt x) (rest := t.map (mrv base b)) F.1 F.2.1 hd ht (fun q => (hC _ _ _ _ (ct ((oi_lt ox o0).mp (oi_0 ▸ q)))).2 lsr H locs cells slots (hR.sk ot)) (fun q => (hC _ _ _ _ (cf (fun q2 => q (oi_0 ▸ (oi_lt ox o0).mpr q2)))).2 lsr H locs cells slots (hR.sk ot))
  | ge => exact lv_if_ge (x := Int32.ofInt x) (rest := t.map (mrv base b)) F.1 F.2.1 hd ht (fun q => (hC _ _ _ _ (ct ((oi_le o0 ox).mp (oi_0 ▸ q)))).2 lsr H locs cells slots (hR.sk ot)) (fun q => (hC _ _ _ _ (cf (fun q2 => q (oi_0 ▸ (oi_le o0 ox).mpr q2)))).2 lsr H locs cells slots (hR.sk ot))
  | gt => exact lv_if_gt (x := Int32.ofInt x) (rest := t.map (mrv base b)) F.1 F.2.1 hd ht (fun q => (hC _ _ _ _ (ct ((oi_lt o0 ox).mp (oi_0 ▸ q)))).2 lsr H locs cells slots (hR.sk ot)) (fun q => (hC _ _ _ _ (cf (fun q2 => q (oi_0 ▸ (oi_lt o0 ox).mpr q2)))).2 lsr H locs cells slots (hR.sk ot))
  | le => exact lv_if_le (x := Int32.ofInt x) (rest := t.map (mrv base b)) F.1 F.2.1 hd ht (fun q => (hC _ _ _ _ (ct ((oi_le ox o0).mp (oi_0 ▸ q)))).2 lsr H locs cells slots (hR.sk ot)) (fun q => (hC _ _ _ _ (cf (fun q2 => q (oi_0 ▸ (oi_le ox o0).mpr q2)))).2 lsr H locs cells slots (hR.sk ot))
theorem z_ifnull {off : Int} (F : mFix p s m args meth c D cI cZ cW base b k) (hC : SimC p l e RR s m args below meth c Q D cI cZ cW base b L xs k cE sE Me C) (hR : RS D cI cZ cW base b L xs s k cE sE Me ls st M lsr H locs cells slots) (hd : decode (mcode k) pc = .ok (.ifnull off, len)) (h : stepI call k (.ifnull off) len pc ls st M C) : W p l e RR s m args below meth c H locs cells slots Q (F0 m pc lsr (st.map (mrv base b))) := by
  obtain ⟨rfl, q, t, rfl, tgt, ht, ct, cf⟩ := h
  obtain ⟨-, ot⟩ := ok_1 hR.2.2.1
  cases q with
  | none => exact lv_ifnullN (rest := t.map (mrv base b)) F.1 F.2.1 hd ht ((hC _ _ _ _ (ct rfl)).2 lsr H locs cells slots (hR.sk ot))
  | some a => exact lv_ifnull (rest := t.map (mrv base b)) F.1 F.2.1 hd ((hC _ _ _ _ (cf (by simp))).2 lsr H locs cells slots (hR.sk ot))
theorem z_ifnonnull {off : Int} (F : mFix p s m args meth c D cI cZ cW base b k) (hC : SimC p l e RR s m args below meth c Q D cI cZ cW base b L xs k cE sE Me C) (hR : RS D cI cZ cW base b L xs s k cE sE Me ls st M lsr H locs cells slots) (hd : decode (mcode k) pc = .ok (.ifnonnull off, len)) (h : stepI call k (.ifnonnull off) len pc ls st M C) : W p l e RR s m args below meth c H locs cells slots Q (F0 m pc lsr (st.map (mrv base b))) := by
  obtain ⟨rfl, q, t, rfl, tgt, ht, ct, cf⟩ := h
  obtain ⟨-, ot⟩ := ok_1 hR.2.2.1
  cases q with
  | none => exact lv_ifnonnullN (rest := t.map (mrv base b)) F.1 F.2.1 hd ((hC _ _ _ _ (cf rfl)).2 lsr H locs cells slots (hR.sk ot))
  | some a => exact lv_ifnonnull (rest := t.map (mrv base b)) F.1 F.2.1 hd ht ((hC _ _ _ _ (ct (by simp))).2 lsr H locs cells slots (hR.sk ot))
theorem z_tableswitch {df lo hi : Int} {offs : Array Int} (F : mFix p s m args meth c D cI cZ cW base b k) (hC : SimC p l e RR s m args below meth c Q D cI cZ cW base b L xs k cE sE Me C) (hR : RS D cI cZ cW base b L xs s k cE sE Me ls st M lsr H locs cells slots) (hd : decode (mcode k) pc = .ok (.tableswitch df lo hi offs, len)) (h : stepI call k (.tableswitch df lo hi offs) len pc ls st M C) : W p l e RR s m args below meth c H locs cells slots Q (F0 m pc lsr (st.map (mrv base b))) := by
  obtain ⟨x, t, rfl, h | h⟩ := h
  · obtain ⟨h1, tgt, ht, hc⟩ := h
    obtain ⟨ox, ot⟩ := ok_1 hR.2.2.1
    exact lv_tableOut (x := Int32.ofInt x) (rest := t.map (mrv base b)) F.1 F.2.1 hd (by rw [oi_to ox]; exact h1) ht ((hC _ _ _ _ hc).2 lsr H locs cells slots (hR.sk ot))
  · obtain ⟨h1, h2, off, tgt, ho, ht, hc⟩ := h
    obtain ⟨ox, ot⟩ := ok_1 hR.2.2.1
    exact lv_tableIn (x := Int32.ofInt x) (rest := t.map (mrv base b)) F.1 F.2.1 hd (by rw [oi_to ox]; exact h1) (by rw [oi_to ox]; exact h2) (by rw [oi_to ox]; exact ho) ht ((hC _ _ _ _ hc).2 lsr H locs cells slots (hR.sk ot))
end SIMC
