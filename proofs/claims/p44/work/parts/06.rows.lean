/-! the small machine, a row an instruction -/
theorem s_iconst {d k pc : Nat} {ls t : List MV} {s u : Nat} {K : Nat → Nat × Nat} {R : Nat → Nat → Option Nat} {I : Nat → Nat → Int} {Q : Option MV → MM → Prop} {n : Int} (hd : decode (mcode k) pc = .ok (.iconst n, 1)) (hn : inI n) (kk : Wm d k (pc + 1) (ls) (vi n :: t) (s, u, K, R, I) Q) : Wm d k pc ls (t) (s, u, K, R, I) Q := by
  obtain ⟨n9, r, M', h, q⟩ := kk
  exact ⟨n9 + 1, r, M', ⟨h.mono, _, _, hd, Or.inr ⟨rfl, hn, h⟩⟩, q⟩
theorem s_bipush {d k pc : Nat} {ls t : List MV} {s u : Nat} {K : Nat → Nat × Nat} {R : Nat → Nat → Option Nat} {I : Nat → Nat → Int} {Q : Option MV → MM → Prop} {n : Int} (hd : decode (mcode k) pc = .ok (.bipush n, 2)) (hn : inI n) (h8 : (Int8.ofInt n).toInt32 = Int32.ofInt n) (kk : Wm d k (pc + 2) (ls) (vi n :: t) (s, u, K, R, I) Q) : Wm d k pc ls (t) (s, u, K, R, I) Q := by
  obtain ⟨n9, r, M', h, q⟩ := kk
  exact ⟨n9 + 1, r, M', ⟨h.mono, _, _, hd, Or.inr ⟨rfl, hn, h8, h⟩⟩, q⟩
theorem s_sipush {d k pc : Nat} {ls t : List MV} {s u : Nat} {K : Nat → Nat × Nat} {R : Nat → Nat → Option Nat} {I : Nat → Nat → Int} {Q : Option MV → MM → Prop} {n : Int} (hd : decode (mcode k) pc = .ok (.sipush n, 3)) (hn : inI n) (h8 : (Int16.ofInt n).toInt32 = Int32.ofInt n) (kk : Wm d k (pc + 3) (ls) (vi n :: t) (s, u, K, R, I) Q) : Wm d k pc ls (t) (s, u, K, R, I) Q := by
  obtain ⟨n9, r, M', h, q⟩ := kk
  exact ⟨n9 + 1, r, M', ⟨h.mono, _, _, hd, Or.inr ⟨rfl, hn, h8, h⟩⟩, q⟩
theorem s_lconst {d k pc : Nat} {ls t : List MV} {s u : Nat} {K : Nat → Nat × Nat} {R : Nat → Nat → Option Nat} {I : Nat → Nat → Int} {Q : Option MV → MM → Prop} {n : Fin 2} {x : Int} (hd : decode (mcode k) pc = .ok (.lconst n, 1)) (hx : ((n : Nat) : Int) = x) (kk : Wm d k (pc + 1) (ls) (vl x :: t) (s, u, K, R, I) Q) : Wm d k pc ls (t) (s, u, K, R, I) Q := by
  obtain ⟨n9, r, M', h, q⟩ := kk
  exact ⟨n9 + 1, r, M', ⟨h.mono, _, _, hd, Or.inr ⟨rfl, hx ▸ h⟩⟩, q⟩
theorem s_ldc {d k pc : Nat} {ls t : List MV} {s u : Nat} {K : Nat → Nat × Nat} {R : Nat → Nat → Option Nat} {I : Nat → Nat → Int} {Q : Option MV → MM → Prop} {idx : Nat} {x : Int} (hd : decode (mcode k) pc = .ok (.ldc idx, 2)) (hc : cst (mcls k) idx = some x) (hn : inI x) (kk : Wm d k (pc + 2) (ls) (vi x :: t) (s, u, K, R, I) Q) : Wm d k pc ls (t) (s, u, K, R, I) Q := by
  obtain ⟨n9, r, M', h, q⟩ := kk
  exact ⟨n9 + 1, r, M', ⟨h.mono, _, _, hd, Or.inr ⟨rfl, x, hc, hn, h⟩⟩, q⟩
theorem s_ldcw {d k pc : Nat} {ls t : List MV} {s u : Nat} {K : Nat → Nat × Nat} {R : Nat → Nat → Option Nat} {I : Nat → Nat → Int} {Q : Option MV → MM → Prop} {idx : Nat} {x : Int} (hd : decode (mcode k) pc = .ok (.ldc_w idx, 3)) (hc : cst (mcls k) idx = some x) (hn : inI x) (kk : Wm d k (pc + 3) (ls) (vi x :: t) (s, u, K, R, I) Q) : Wm d k pc ls (t) (s, u, K, R, I) Q := by
  obtain ⟨n9, r, M', h, q⟩ := kk
  exact ⟨n9 + 1, r, M', ⟨h.mono, _, _, hd, Or.inr ⟨rfl, x, hc, hn, h⟩⟩, q⟩
theorem s_ldc2 {d k pc : Nat} {ls t : List MV} {s u : Nat} {K : Nat → Nat × Nat} {R : Nat → Nat → Option Nat} {I : Nat → Nat → Int} {Q : Option MV → MM → Prop} {idx : Nat} {x : Int} (hd : decode (mcode k) pc = .ok (.ldc2_w idx, 3)) (hc : csl (mcls k) idx = some x) (hn : inL x) (kk : Wm d k (pc + 3) (ls) (vl x :: t) (s, u, K, R, I) Q) : Wm d k pc ls (t) (s, u, K, R, I) Q := by
  obtain ⟨n9, r, M', h, q⟩ := kk
  exact ⟨n9 + 1, r, M', ⟨h.mono, _, _, hd, Or.inr ⟨rfl, x, hc, hn, h⟩⟩, q⟩
theorem s_iload {d k pc : Nat} {ls t : List MV} {s u : Nat} {K : Nat → Nat × Nat} {R : Nat → Nat → Option Nat} {I : Nat → Nat → Int} {Q : Option MV → MM → Prop} {i : Nat} {x : Int} (hd : decode (mcode k) pc = .ok (.iload i, 2)) (hl : ls[i]? = some (vi x)) (kk : Wm d k (pc + 2) (ls) (vi x :: t) (s, u, K, R, I) Q) : Wm d k pc ls (t) (s, u, K, R, I) Q := by
  obtain ⟨n9, r, M', h, q⟩ := kk
  exact ⟨n9 + 1, r, M', ⟨h.mono, _, _, hd, Or.inr ⟨rfl, x, hl, h⟩⟩, q⟩
theorem s_iload_n {d k pc : Nat} {ls t : List MV} {s u : Nat} {K : Nat → Nat × Nat} {R : Nat → Nat → Option Nat} {I : Nat → Nat → Int} {Q : Option MV → MM → Prop} {i : Fin 4} {x : Int} (hd : decode (mcode k) pc = .ok (.iload_n i, 1)) (hl : ls[(i : Nat)]? = some (vi x)) (kk : Wm d k (pc + 1) (ls) (vi x :: t) (s, u, K, R, I) Q) : Wm d k pc ls (t) (s, u, K, R, I) Q := by
  obtain ⟨n9, r, M', h, q⟩ := kk
  exact ⟨n9 + 1, r, M', ⟨h.mono, _, _, hd, Or.inr ⟨rfl, x, hl, h⟩⟩, q⟩
theorem s_lload {d k pc : Nat} {ls t : List MV} {s u : Nat} {K : Nat → Nat × Nat} {R : Nat → Nat → Option Nat} {I : Nat → Nat → Int} {Q : Option MV → MM → Prop} {i : Nat} {x : Int} (hd : decode (mcode k) pc = .ok (.lload i, 2)) (hl : ls[i]? = some (vl x)) (kk : Wm d k (pc + 2) (ls) (vl x :: t) (s, u, K, R, I) Q) : Wm d k pc ls (t) (s, u, K, R, I) Q := by
  obtain ⟨n9, r, M', h, q⟩ := kk
  exact ⟨n9 + 1, r, M', ⟨h.mono, _, _, hd, Or.inr ⟨rfl, x, hl, h⟩⟩, q⟩
theorem s_lload_n {d k pc : Nat} {ls t : List MV} {s u : Nat} {K : Nat → Nat × Nat} {R : Nat → Nat → Option Nat} {I : Nat → Nat → Int} {Q : Option MV → MM → Prop} {i : Fin 4} {x : Int} (hd : decode (mcode k) pc = .ok (.lload_n i, 1)) (hl : ls[(i : Nat)]? = some (vl x)) (kk : Wm d k (pc + 1) (ls) (vl x :: t) (s, u, K, R, I) Q) : Wm d k pc ls (t) (s, u, K, R, I) Q := by
  obtain ⟨n9, r, M', h, q⟩ := kk
  exact ⟨n9 + 1, r, M', ⟨h.mono, _, _, hd, Or.inr ⟨rfl, x, hl, h⟩⟩, q⟩
theorem s_aload {d k pc : Nat} {ls t : List MV} {s u : Nat} {K : Nat → Nat × Nat} {R : Nat → Nat → Option Nat} {I : Nat → Nat → Int} {Q : Option MV → MM → Prop} {i : Nat} {x : Nat} (hd : decode (mcode k) pc = .ok (.aload i, 2)) (hl : ls[i]? = some (vr x)) (kk : Wm d k (pc + 2) (ls) (vr x :: t) (s, u, K, R, I) Q) : Wm d k pc ls (t) (s, u, K, R, I) Q := by
  obtain ⟨n9, r, M', h, q⟩ := kk
  exact ⟨n9 + 1, r, M', ⟨h.mono, _, _, hd, Or.inr ⟨rfl, x, hl, h⟩⟩, q⟩
theorem s_aload_n {d k pc : Nat} {ls t : List MV} {s u : Nat} {K : Nat → Nat × Nat} {R : Nat → Nat → Option Nat} {I : Nat → Nat → Int} {Q : Option MV → MM → Prop} {i : Fin 4} {x : Nat} (hd : decode (mcode k) pc = .ok (.aload_n i, 1)) (hl : ls[(i : Nat)]? = some (vr x)) (kk : Wm d k (pc + 1) (ls) (vr x :: t) (s, u, K, R, I) Q) : Wm d k pc ls (t) (s, u, K, R, I) Q := by
  obtain ⟨n9, r, M', h, q⟩ := kk
  exact ⟨n9 + 1, r, M', ⟨h.mono, _, _, hd, Or.inr ⟨rfl, x, hl, h⟩⟩, q⟩
theorem s_istore {d k pc : Nat} {ls t : List MV} {s u : Nat} {K : Nat → Nat × Nat} {R : Nat → Nat → Option Nat} {I : Nat → Nat → Int} {Q : Option MV → MM → Prop} {i : Nat} {x : Int} {ls2 : List MV} (hd : decode (mcode k) pc = .ok (.istore i, 2)) (hi : i < ls.length) (hl : st1 ls i (vi x) = ls2) (kk : Wm d k (pc + 2) (ls2) (t) (s, u, K, R, I) Q) : Wm d k pc ls (vi x :: t) (s, u, K, R, I) Q := by
  obtain ⟨n9, r, M', h, q⟩ := kk
  exact ⟨n9 + 1, r, M', ⟨h.mono, _, _, hd, Or.inr ⟨rfl, x, t, rfl, hi, hl ▸ h⟩⟩, q⟩
theorem s_istore_n {d k pc : Nat} {ls t : List MV} {s u : Nat} {K : Nat → Nat × Nat} {R : Nat → Nat → Option Nat} {I : Nat → Nat → Int} {Q : Option MV → MM → Prop} {i : Fin 4} {x : Int} {ls2 : List MV} (hd : decode (mcode k) pc = .ok (.istore_n i, 1)) (hi : (i : Nat) < ls.length) (hl : st1 ls i (vi x) = ls2) (kk : Wm d k (pc + 1) (ls2) (t) (s, u, K, R, I) Q) : Wm d k pc ls (vi x :: t) (s, u, K, R, I) Q := by
  obtain ⟨n9, r, M', h, q⟩ := kk
  exact ⟨n9 + 1, r, M', ⟨h.mono, _, _, hd, Or.inr ⟨rfl, x, t, rfl, hi, hl ▸ h⟩⟩, q⟩
theorem s_astore {d k pc : Nat} {ls t : List MV} {s u : Nat} {K : Nat → Nat × Nat} {R : Nat → Nat → Option Nat} {I : Nat → Nat → Int} {Q : Option MV → MM → Prop} {i : Nat} {x : Nat} {ls2 : List MV} (hd : decode (mcode k) pc = .ok (.astore i, 2)) (hi : i < ls.length) (hl : st1 ls i (vr x) = ls2) (kk : Wm d k (pc + 2) (ls2) (t) (s, u, K, R, I) Q) : Wm d k pc ls (vr x :: t) (s, u, K, R, I) Q := by
  obtain ⟨n9, r, M', h, q⟩ := kk
  exact ⟨n9 + 1, r, M', ⟨h.mono, _, _, hd, Or.inr ⟨rfl, x, t, rfl, hi, hl ▸ h⟩⟩, q⟩
theorem s_astore_n {d k pc : Nat} {ls t : List MV} {s u : Nat} {K : Nat → Nat × Nat} {R : Nat → Nat → Option Nat} {I : Nat → Nat → Int} {Q : Option MV → MM → Prop} {i : Fin 4} {x : Nat} {ls2 : List MV} (hd : decode (mcode k) pc = .ok (.astore_n i, 1)) (hi : (i : Nat) < ls.length) (hl : st1 ls i (vr x) = ls2) (kk : Wm d k (pc + 1) (ls2) (t) (s, u, K, R, I) Q) : Wm d k pc ls (vr x :: t) (s, u, K, R, I) Q := by
  obtain ⟨n9, r, M', h, q⟩ := kk
  exact ⟨n9 + 1, r, M', ⟨h.mono, _, _, hd, Or.inr ⟨rfl, x, t, rfl, hi, hl ▸ h⟩⟩, q⟩
theorem s_lstore {d k pc : Nat} {ls t : List MV} {s u : Nat} {K : Nat → Nat × Nat} {R : Nat → Nat → Option Nat} {I : Nat → Nat → Int} {Q : Option MV → MM → Prop} {i : Nat} {x : Int} {ls2 : List MV} (hd : decode (mcode k) pc = .ok (.lstore i, 2)) (hi : i + 1 < ls.length) (hl : st2 ls i (vl x) = ls2) (kk : Wm d k (pc + 2) (ls2) (t) (s, u, K, R, I) Q) : Wm d k pc ls (vl x :: t) (s, u, K, R, I) Q := by
  obtain ⟨n9, r, M', h, q⟩ := kk
  exact ⟨n9 + 1, r, M', ⟨h.mono, _, _, hd, Or.inr ⟨rfl, x, t, rfl, hi, hl ▸ h⟩⟩, q⟩
theorem s_lstore_n {d k pc : Nat} {ls t : List MV} {s u : Nat} {K : Nat → Nat × Nat} {R : Nat → Nat → Option Nat} {I : Nat → Nat → Int} {Q : Option MV → MM → Prop} {i : Fin 4} {x : Int} {ls2 : List MV} (hd : decode (mcode k) pc = .ok (.lstore_n i, 1)) (hi : (i : Nat) + 1 < ls.length) (hl : st2 ls i (vl x) = ls2) (kk : Wm d k (pc + 1) (ls2) (t) (s, u, K, R, I) Q) : Wm d k pc ls (vl x :: t) (s, u, K, R, I) Q := by
  obtain ⟨n9, r, M', h, q⟩ := kk
  exact ⟨n9 + 1, r, M', ⟨h.mono, _, _, hd, Or.inr ⟨rfl, x, t, rfl, hi, hl ▸ h⟩⟩, q⟩
theorem s_iinc {d k pc : Nat} {ls t : List MV} {s u : Nat} {K : Nat → Nat × Nat} {R : Nat → Nat → Option Nat} {I : Nat → Nat → Int} {Q : Option MV → MM → Prop} {i : Nat} {n x : Int} {ls2 : List MV} (hd : decode (mcode k) pc = .ok (.iinc i n, 3)) (hx : ls[i]? = some (vi x)) (hl : st1 ls i (vi (wI (x + n))) = ls2) (kk : Wm d k (pc + 3) (ls2) (t) (s, u, K, R, I) Q) : Wm d k pc ls (t) (s, u, K, R, I) Q := by
  obtain ⟨n9, r, M', h, q⟩ := kk
  exact ⟨n9 + 1, r, M', ⟨h.mono, _, _, hd, Or.inr ⟨rfl, x, hx, hl ▸ h⟩⟩, q⟩
theorem s_iadd {d k pc : Nat} {ls t : List MV} {s u : Nat} {K : Nat → Nat × Nat} {R : Nat → Nat → Option Nat} {I : Nat → Nat → Int} {Q : Option MV → MM → Prop} {x y : Int} (hd : decode (mcode k) pc = .ok (.iadd, 1))  (kk : Wm d k (pc + 1) (ls) (vi (wI (x + y)) :: t) (s, u, K, R, I) Q) : Wm d k pc ls (vi y :: vi x :: t) (s, u, K, R, I) Q := by
  obtain ⟨n9, r, M', h, q⟩ := kk
  exact ⟨n9 + 1, r, M', ⟨h.mono, _, _, hd, Or.inr ⟨rfl, x, y, t, rfl, h⟩⟩, q⟩
theorem s_isub {d k pc : Nat} {ls t : List MV} {s u : Nat} {K : Nat → Nat × Nat} {R : Nat → Nat → Option Nat} {I : Nat → Nat → Int} {Q : Option MV → MM → Prop} {x y : Int} (hd : decode (mcode k) pc = .ok (.isub, 1))  (kk : Wm d k (pc + 1) (ls) (vi (wI (x - y)) :: t) (s, u, K, R, I) Q) : Wm d k pc ls (vi y :: vi x :: t) (s, u, K, R, I) Q := by
  obtain ⟨n9, r, M', h, q⟩ := kk
  exact ⟨n9 + 1, r, M', ⟨h.mono, _, _, hd, Or.inr ⟨rfl, x, y, t, rfl, h⟩⟩, q⟩
theorem s_imul {d k pc : Nat} {ls t : List MV} {s u : Nat} {K : Nat → Nat × Nat} {R : Nat → Nat → Option Nat} {I : Nat → Nat → Int} {Q : Option MV → MM → Prop} {x y : Int} (hd : decode (mcode k) pc = .ok (.imul, 1))  (kk : Wm d k (pc + 1) (ls) (vi (wI (x * y)) :: t) (s, u, K, R, I) Q) : Wm d k pc ls (vi y :: vi x :: t) (s, u, K, R, I) Q := by
  obtain ⟨n9, r, M', h, q⟩ := kk
  exact ⟨n9 + 1, r, M', ⟨h.mono, _, _, hd, Or.inr ⟨rfl, x, y, t, rfl, h⟩⟩, q⟩
theorem s_iand {d k pc : Nat} {ls t : List MV} {s u : Nat} {K : Nat → Nat × Nat} {R : Nat → Nat → Option Nat} {I : Nat → Nat → Int} {Q : Option MV → MM → Prop} {x y : Int} (hd : decode (mcode k) pc = .ok (.iand, 1))  (kk : Wm d k (pc + 1) (ls) (vi (aNd x y) :: t) (s, u, K, R, I) Q) : Wm d k pc ls (vi y :: vi x :: t) (s, u, K, R, I) Q := by
  obtain ⟨n9, r, M', h, q⟩ := kk
  exact ⟨n9 + 1, r, M', ⟨h.mono, _, _, hd, Or.inr ⟨rfl, x, y, t, rfl, h⟩⟩, q⟩
theorem s_ixor {d k pc : Nat} {ls t : List MV} {s u : Nat} {K : Nat → Nat × Nat} {R : Nat → Nat → Option Nat} {I : Nat → Nat → Int} {Q : Option MV → MM → Prop} {x y : Int} (hd : decode (mcode k) pc = .ok (.ixor, 1))  (kk : Wm d k (pc + 1) (ls) (vi (xOr x y) :: t) (s, u, K, R, I) Q) : Wm d k pc ls (vi y :: vi x :: t) (s, u, K, R, I) Q := by
  obtain ⟨n9, r, M', h, q⟩ := kk
  exact ⟨n9 + 1, r, M', ⟨h.mono, _, _, hd, Or.inr ⟨rfl, x, y, t, rfl, h⟩⟩, q⟩
theorem s_ishl {d k pc : Nat} {ls t : List MV} {s u : Nat} {K : Nat → Nat × Nat} {R : Nat → Nat → Option Nat} {I : Nat → Nat → Int} {Q : Option MV → MM → Prop} {x y : Int} (hd : decode (mcode k) pc = .ok (.ishl, 1))  (kk : Wm d k (pc + 1) (ls) (vi (sHl x y) :: t) (s, u, K, R, I) Q) : Wm d k pc ls (vi y :: vi x :: t) (s, u, K, R, I) Q := by
  obtain ⟨n9, r, M', h, q⟩ := kk
  exact ⟨n9 + 1, r, M', ⟨h.mono, _, _, hd, Or.inr ⟨rfl, x, y, t, rfl, h⟩⟩, q⟩
theorem s_ishr {d k pc : Nat} {ls t : List MV} {s u : Nat} {K : Nat → Nat × Nat} {R : Nat → Nat → Option Nat} {I : Nat → Nat → Int} {Q : Option MV → MM → Prop} {x y : Int} (hd : decode (mcode k) pc = .ok (.ishr, 1))  (kk : Wm d k (pc + 1) (ls) (vi (sHr x y) :: t) (s, u, K, R, I) Q) : Wm d k pc ls (vi y :: vi x :: t) (s, u, K, R, I) Q := by
  obtain ⟨n9, r, M', h, q⟩ := kk
  exact ⟨n9 + 1, r, M', ⟨h.mono, _, _, hd, Or.inr ⟨rfl, x, y, t, rfl, h⟩⟩, q⟩
theorem s_iushr {d k pc : Nat} {ls t : List MV} {s u : Nat} {K : Nat → Nat × Nat} {R : Nat → Nat → Option Nat} {I : Nat → Nat → Int} {Q : Option MV → MM → Prop} {x y : Int} (hd : decode (mcode k) pc = .ok (.iushr, 1))  (kk : Wm d k (pc + 1) (ls) (vi (sUr x y) :: t) (s, u, K, R, I) Q) : Wm d k pc ls (vi y :: vi x :: t) (s, u, K, R, I) Q := by
  obtain ⟨n9, r, M', h, q⟩ := kk
  exact ⟨n9 + 1, r, M', ⟨h.mono, _, _, hd, Or.inr ⟨rfl, x, y, t, rfl, h⟩⟩, q⟩
theorem s_idiv {d k pc : Nat} {ls t : List MV} {s u : Nat} {K : Nat → Nat × Nat} {R : Nat → Nat → Option Nat} {I : Nat → Nat → Int} {Q : Option MV → MM → Prop} {x y : Int} (hd : decode (mcode k) pc = .ok (.idiv, 1)) (hy : y ≠ 0) (kk : Wm d k (pc + 1) (ls) (vi (wI (x.tdiv y)) :: t) (s, u, K, R, I) Q) : Wm d k pc ls (vi y :: vi x :: t) (s, u, K, R, I) Q := by
  obtain ⟨n9, r, M', h, q⟩ := kk
  exact ⟨n9 + 1, r, M', ⟨h.mono, _, _, hd, Or.inr ⟨rfl, x, y, t, rfl, hy, h⟩⟩, q⟩
theorem s_irem {d k pc : Nat} {ls t : List MV} {s u : Nat} {K : Nat → Nat × Nat} {R : Nat → Nat → Option Nat} {I : Nat → Nat → Int} {Q : Option MV → MM → Prop} {x y : Int} (hd : decode (mcode k) pc = .ok (.irem, 1)) (hy : y ≠ 0) (kk : Wm d k (pc + 1) (ls) (vi (x.tmod y) :: t) (s, u, K, R, I) Q) : Wm d k pc ls (vi y :: vi x :: t) (s, u, K, R, I) Q := by
  obtain ⟨n9, r, M', h, q⟩ := kk
  exact ⟨n9 + 1, r, M', ⟨h.mono, _, _, hd, Or.inr ⟨rfl, x, y, t, rfl, hy, h⟩⟩, q⟩
theorem s_ladd {d k pc : Nat} {ls t : List MV} {s u : Nat} {K : Nat → Nat × Nat} {R : Nat → Nat → Option Nat} {I : Nat → Nat → Int} {Q : Option MV → MM → Prop} {x y : Int} (hd : decode (mcode k) pc = .ok (.ladd, 1))  (kk : Wm d k (pc + 1) (ls) (vl (wL (x + y)) :: t) (s, u, K, R, I) Q) : Wm d k pc ls (vl y :: vl x :: t) (s, u, K, R, I) Q := by
  obtain ⟨n9, r, M', h, q⟩ := kk
  exact ⟨n9 + 1, r, M', ⟨h.mono, _, _, hd, Or.inr ⟨rfl, x, y, t, rfl, h⟩⟩, q⟩
theorem s_lsub {d k pc : Nat} {ls t : List MV} {s u : Nat} {K : Nat → Nat × Nat} {R : Nat → Nat → Option Nat} {I : Nat → Nat → Int} {Q : Option MV → MM → Prop} {x y : Int} (hd : decode (mcode k) pc = .ok (.lsub, 1))  (kk : Wm d k (pc + 1) (ls) (vl (wL (x - y)) :: t) (s, u, K, R, I) Q) : Wm d k pc ls (vl y :: vl x :: t) (s, u, K, R, I) Q := by
  obtain ⟨n9, r, M', h, q⟩ := kk
  exact ⟨n9 + 1, r, M', ⟨h.mono, _, _, hd, Or.inr ⟨rfl, x, y, t, rfl, h⟩⟩, q⟩
theorem s_lmul {d k pc : Nat} {ls t : List MV} {s u : Nat} {K : Nat → Nat × Nat} {R : Nat → Nat → Option Nat} {I : Nat → Nat → Int} {Q : Option MV → MM → Prop} {x y : Int} (hd : decode (mcode k) pc = .ok (.lmul, 1))  (kk : Wm d k (pc + 1) (ls) (vl (wL (x * y)) :: t) (s, u, K, R, I) Q) : Wm d k pc ls (vl y :: vl x :: t) (s, u, K, R, I) Q := by
  obtain ⟨n9, r, M', h, q⟩ := kk
  exact ⟨n9 + 1, r, M', ⟨h.mono, _, _, hd, Or.inr ⟨rfl, x, y, t, rfl, h⟩⟩, q⟩
theorem s_land {d k pc : Nat} {ls t : List MV} {s u : Nat} {K : Nat → Nat × Nat} {R : Nat → Nat → Option Nat} {I : Nat → Nat → Int} {Q : Option MV → MM → Prop} {x y : Int} (hd : decode (mcode k) pc = .ok (.land, 1))  (kk : Wm d k (pc + 1) (ls) (vl (lAnd x y) :: t) (s, u, K, R, I) Q) : Wm d k pc ls (vl y :: vl x :: t) (s, u, K, R, I) Q := by
  obtain ⟨n9, r, M', h, q⟩ := kk
  exact ⟨n9 + 1, r, M', ⟨h.mono, _, _, hd, Or.inr ⟨rfl, x, y, t, rfl, h⟩⟩, q⟩
theorem s_lor {d k pc : Nat} {ls t : List MV} {s u : Nat} {K : Nat → Nat × Nat} {R : Nat → Nat → Option Nat} {I : Nat → Nat → Int} {Q : Option MV → MM → Prop} {x y : Int} (hd : decode (mcode k) pc = .ok (.lor, 1))  (kk : Wm d k (pc + 1) (ls) (vl (lOr x y) :: t) (s, u, K, R, I) Q) : Wm d k pc ls (vl y :: vl x :: t) (s, u, K, R, I) Q := by
  obtain ⟨n9, r, M', h, q⟩ := kk
  exact ⟨n9 + 1, r, M', ⟨h.mono, _, _, hd, Or.inr ⟨rfl, x, y, t, rfl, h⟩⟩, q⟩
theorem s_ldiv {d k pc : Nat} {ls t : List MV} {s u : Nat} {K : Nat → Nat × Nat} {R : Nat → Nat → Option Nat} {I : Nat → Nat → Int} {Q : Option MV → MM → Prop} {x y : Int} (hd : decode (mcode k) pc = .ok (.ldiv, 1)) (hy : y ≠ 0) (kk : Wm d k (pc + 1) (ls) (vl (wL (x.tdiv y)) :: t) (s, u, K, R, I) Q) : Wm d k pc ls (vl y :: vl x :: t) (s, u, K, R, I) Q := by
  obtain ⟨n9, r, M', h, q⟩ := kk
  exact ⟨n9 + 1, r, M', ⟨h.mono, _, _, hd, Or.inr ⟨rfl, x, y, t, rfl, hy, h⟩⟩, q⟩
theorem s_lrem {d k pc : Nat} {ls t : List MV} {s u : Nat} {K : Nat → Nat × Nat} {R : Nat → Nat → Option Nat} {I : Nat → Nat → Int} {Q : Option MV → MM → Prop} {x y : Int} (hd : decode (mcode k) pc = .ok (.lrem, 1)) (hy : y ≠ 0) (kk : Wm d k (pc + 1) (ls) (vl (x.tmod y) :: t) (s, u, K, R, I) Q) : Wm d k pc ls (vl y :: vl x :: t) (s, u, K, R, I) Q := by
  obtain ⟨n9, r, M', h, q⟩ := kk
  exact ⟨n9 + 1, r, M', ⟨h.mono, _, _, hd, Or.inr ⟨rfl, x, y, t, rfl, hy, h⟩⟩, q⟩
theorem s_lshl {d k pc : Nat} {ls t : List MV} {s u : Nat} {K : Nat → Nat × Nat} {R : Nat → Nat → Option Nat} {I : Nat → Nat → Int} {Q : Option MV → MM → Prop} {x y : Int} (hd : decode (mcode k) pc = .ok (.lshl, 1))  (kk : Wm d k (pc + 1) (ls) (vl (lShl x y) :: t) (s, u, K, R, I) Q) : Wm d k pc ls (vi y :: vl x :: t) (s, u, K, R, I) Q := by
  obtain ⟨n9, r, M', h, q⟩ := kk
  exact ⟨n9 + 1, r, M', ⟨h.mono, _, _, hd, Or.inr ⟨rfl, x, y, t, rfl, h⟩⟩, q⟩
theorem s_lcmp {d k pc : Nat} {ls t : List MV} {s u : Nat} {K : Nat → Nat × Nat} {R : Nat → Nat → Option Nat} {I : Nat → Nat → Int} {Q : Option MV → MM → Prop} {x y : Int} (hd : decode (mcode k) pc = .ok (.lcmp, 1))  (kk : Wm d k (pc + 1) (ls) (vi (lCm x y) :: t) (s, u, K, R, I) Q) : Wm d k pc ls (vl y :: vl x :: t) (s, u, K, R, I) Q := by
  obtain ⟨n9, r, M', h, q⟩ := kk
  exact ⟨n9 + 1, r, M', ⟨h.mono, _, _, hd, Or.inr ⟨rfl, x, y, t, rfl, h⟩⟩, q⟩
theorem s_ineg {d k pc : Nat} {ls t : List MV} {s u : Nat} {K : Nat → Nat × Nat} {R : Nat → Nat → Option Nat} {I : Nat → Nat → Int} {Q : Option MV → MM → Prop} {x : Int} (hd : decode (mcode k) pc = .ok (.ineg, 1))  (kk : Wm d k (pc + 1) (ls) (vi (wI (-x)) :: t) (s, u, K, R, I) Q) : Wm d k pc ls (vi x :: t) (s, u, K, R, I) Q := by
  obtain ⟨n9, r, M', h, q⟩ := kk
  exact ⟨n9 + 1, r, M', ⟨h.mono, _, _, hd, Or.inr ⟨rfl, x, t, rfl, h⟩⟩, q⟩
theorem s_lneg {d k pc : Nat} {ls t : List MV} {s u : Nat} {K : Nat → Nat × Nat} {R : Nat → Nat → Option Nat} {I : Nat → Nat → Int} {Q : Option MV → MM → Prop} {x : Int} (hd : decode (mcode k) pc = .ok (.lneg, 1))  (kk : Wm d k (pc + 1) (ls) (vl (wL (-x)) :: t) (s, u, K, R, I) Q) : Wm d k pc ls (vl x :: t) (s, u, K, R, I) Q := by
  obtain ⟨n9, r, M', h, q⟩ := kk
  exact ⟨n9 + 1, r, M', ⟨h.mono, _, _, hd, Or.inr ⟨rfl, x, t, rfl, h⟩⟩, q⟩
theorem s_i2l {d k pc : Nat} {ls t : List MV} {s u : Nat} {K : Nat → Nat × Nat} {R : Nat → Nat → Option Nat} {I : Nat → Nat → Int} {Q : Option MV → MM → Prop} {x : Int} (hd : decode (mcode k) pc = .ok (.i2l, 1))  (kk : Wm d k (pc + 1) (ls) (vl x :: t) (s, u, K, R, I) Q) : Wm d k pc ls (vi x :: t) (s, u, K, R, I) Q := by
  obtain ⟨n9, r, M', h, q⟩ := kk
  exact ⟨n9 + 1, r, M', ⟨h.mono, _, _, hd, Or.inr ⟨rfl, x, t, rfl, h⟩⟩, q⟩
theorem s_l2i {d k pc : Nat} {ls t : List MV} {s u : Nat} {K : Nat → Nat × Nat} {R : Nat → Nat → Option Nat} {I : Nat → Nat → Int} {Q : Option MV → MM → Prop} {x : Int} (hd : decode (mcode k) pc = .ok (.l2i, 1))  (kk : Wm d k (pc + 1) (ls) (vi (wI x) :: t) (s, u, K, R, I) Q) : Wm d k pc ls (vl x :: t) (s, u, K, R, I) Q := by
  obtain ⟨n9, r, M', h, q⟩ := kk
  exact ⟨n9 + 1, r, M', ⟨h.mono, _, _, hd, Or.inr ⟨rfl, x, t, rfl, h⟩⟩, q⟩
theorem s_dup {d k pc : Nat} {ls t : List MV} {s u : Nat} {K : Nat → Nat × Nat} {R : Nat → Nat → Option Nat} {I : Nat → Nat → Int} {Q : Option MV → MM → Prop} {v : MV} (hd : decode (mcode k) pc = .ok (.dup, 1)) (hw : wd v = 1) (kk : Wm d k (pc + 1) (ls) (v :: v :: t) (s, u, K, R, I) Q) : Wm d k pc ls (v :: t) (s, u, K, R, I) Q := by
  obtain ⟨n9, r, M', h, q⟩ := kk
  exact ⟨n9 + 1, r, M', ⟨h.mono, _, _, hd, Or.inr ⟨rfl, v, t, rfl, hw, h⟩⟩, q⟩
theorem s_dup2 {d k pc : Nat} {ls t : List MV} {s u : Nat} {K : Nat → Nat × Nat} {R : Nat → Nat → Option Nat} {I : Nat → Nat → Int} {Q : Option MV → MM → Prop} {v w : MV} (hd : decode (mcode k) pc = .ok (.dup2, 1)) (hw : wd v = 1) (hw2 : wd w = 1) (kk : Wm d k (pc + 1) (ls) (v :: w :: v :: w :: t) (s, u, K, R, I) Q) : Wm d k pc ls (v :: w :: t) (s, u, K, R, I) Q := by
  obtain ⟨n9, r, M', h, q⟩ := kk
  exact ⟨n9 + 1, r, M', ⟨h.mono, _, _, hd, Or.inr ⟨rfl, v, w, t, rfl, hw, hw2, h⟩⟩, q⟩
theorem s_pop {d k pc : Nat} {ls t : List MV} {s u : Nat} {K : Nat → Nat × Nat} {R : Nat → Nat → Option Nat} {I : Nat → Nat → Int} {Q : Option MV → MM → Prop} {v : MV} (hd : decode (mcode k) pc = .ok (.pop, 1)) (hw : wd v = 1) (kk : Wm d k (pc + 1) (ls) (t) (s, u, K, R, I) Q) : Wm d k pc ls (v :: t) (s, u, K, R, I) Q := by
  obtain ⟨n9, r, M', h, q⟩ := kk
  exact ⟨n9 + 1, r, M', ⟨h.mono, _, _, hd, Or.inr ⟨rfl, v, t, rfl, hw, h⟩⟩, q⟩
theorem s_pop2 {d k pc : Nat} {ls t : List MV} {s u : Nat} {K : Nat → Nat × Nat} {R : Nat → Nat → Option Nat} {I : Nat → Nat → Int} {Q : Option MV → MM → Prop} {v : MV} (hd : decode (mcode k) pc = .ok (.pop2, 1)) (hw : wd v = 2) (kk : Wm d k (pc + 1) (ls) (t) (s, u, K, R, I) Q) : Wm d k pc ls (v :: t) (s, u, K, R, I) Q := by
  obtain ⟨n9, r, M', h, q⟩ := kk
  exact ⟨n9 + 1, r, M', ⟨h.mono, _, _, hd, Or.inr ⟨rfl, v, t, rfl, hw, h⟩⟩, q⟩
theorem s_goto {d k pc : Nat} {ls t : List MV} {s u : Nat} {K : Nat → Nat × Nat} {R : Nat → Nat → Option Nat} {I : Nat → Nat → Int} {Q : Option MV → MM → Prop} {off : Int} (tgt : Nat) (hd : decode (mcode k) pc = .ok (.goto off, 3)) (ht : (pc : Int) + off = (tgt : Int)) (kk : Wm d k (tgt) (ls) (t) (s, u, K, R, I) Q) : Wm d k pc ls (t) (s, u, K, R, I) Q := by
  obtain ⟨n9, r, M', h, q⟩ := kk
  exact ⟨n9 + 1, r, M', ⟨h.mono, _, _, hd, Or.inr ⟨rfl, tgt, ht, h⟩⟩, q⟩
theorem s_icmp_eq {d k pc : Nat} {ls t : List MV} {s u : Nat} {K : Nat → Nat × Nat} {R : Nat → Nat → Option Nat} {I : Nat → Nat → Int} {Q : Option MV → MM → Prop} {off : Int} {x y : Int} (tgt : Nat) (hd : decode (mcode k) pc = .ok (.if_icmp .eq off, 3)) (ht : (pc : Int) + off = (tgt : Int)) (kt : x = y → Wm d k tgt ls t (s, u, K, R, I) Q) (kf : x ≠ y → Wm d k (pc + 3) ls t (s, u, K, R, I) Q) : Wm d k pc ls (vi y :: vi x :: t) (s, u, K, R, I) Q := by
  by_cases hc : x = y
  · obtain ⟨n, r, M', h, q⟩ := kt (hc)
    exact ⟨n + 1, r, M', ⟨h.mono, _, _, hd, Or.inr ⟨rfl, x, y, t, rfl, tgt, ht, fun _ => h, fun h2 => absurd hc h2⟩⟩, q⟩
  · obtain ⟨n, r, M', h, q⟩ := kf (hc)
    exact ⟨n + 1, r, M', ⟨h.mono, _, _, hd, Or.inr ⟨rfl, x, y, t, rfl, tgt, ht, fun h2 => absurd h2 hc, fun _ => h⟩⟩, q⟩
theorem s_if_eq {d k pc : Nat} {ls t : List MV} {s u : Nat} {K : Nat → Nat × Nat} {R : Nat → Nat → Option Nat} {I : Nat → Nat → Int} {Q : Option MV → MM → Prop} {off : Int} {x : Int} (tgt : Nat) (hd : decode (mcode k) pc = .ok (.ifCond .eq off, 3)) (ht : (pc : Int) + off = (tgt : Int)) (kt : x = 0 → Wm d k tgt ls t (s, u, K, R, I) Q) (kf : x ≠ 0 → Wm d k (pc + 3) ls t (s, u, K, R, I) Q) : Wm d k pc ls (vi x :: t) (s, u, K, R, I) Q := by
  by_cases hc : x = 0
  · obtain ⟨n, r, M', h, q⟩ := kt (hc)
    exact ⟨n + 1, r, M', ⟨h.mono, _, _, hd, Or.inr ⟨rfl, x, t, rfl, tgt, ht, fun _ => h, fun h2 => absurd hc h2⟩⟩, q⟩
  · obtain ⟨n, r, M', h, q⟩ := kf (hc)
    exact ⟨n + 1, r, M', ⟨h.mono, _, _, hd, Or.inr ⟨rfl, x, t, rfl, tgt, ht, fun h2 => absurd h2 hc, fun _ => h⟩⟩, q⟩
theorem s_icmp_ne {d k pc : Nat} {ls t : List MV} {s u : Nat} {K : Nat → Nat × Nat} {R : Nat → Nat → Option Nat} {I : Nat → Nat → Int} {Q : Option MV → MM → Prop} {off : Int} {x y : Int} (tgt : Nat) (hd : decode (mcode k) pc = .ok (.if_icmp .ne off, 3)) (ht : (pc : Int) + off = (tgt : Int)) (kt : x ≠ y → Wm d k tgt ls t (s, u, K, R, I) Q) (kf : x = y → Wm d k (pc + 3) ls t (s, u, K, R, I) Q) : Wm d k pc ls (vi y :: vi x :: t) (s, u, K, R, I) Q := by
  by_cases hc : x ≠ y
  · obtain ⟨n, r, M', h, q⟩ := kt (hc)
    exact ⟨n + 1, r, M', ⟨h.mono, _, _, hd, Or.inr ⟨rfl, x, y, t, rfl, tgt, ht, fun _ => h, fun h2 => absurd hc h2⟩⟩, q⟩
  · obtain ⟨n, r, M', h, q⟩ := kf (Classical.not_not.mp hc)
    exact ⟨n + 1, r, M', ⟨h.mono, _, _, hd, Or.inr ⟨rfl, x, y, t, rfl, tgt, ht, fun h2 => absurd h2 hc, fun _ => h⟩⟩, q⟩
theorem s_if_ne {d k pc : Nat} {ls t : List MV} {s u : Nat} {K : Nat → Nat × Nat} {R : Nat → Nat → Option Nat} {I : Nat → Nat → Int} {Q : Option MV → MM → Prop} {off : Int} {x : Int} (tgt : Nat) (hd : decode (mcode k) pc = .ok (.ifCond .ne off, 3)) (ht : (pc : Int) + off = (tgt : Int)) (kt : x ≠ 0 → Wm d k tgt ls t (s, u, K, R, I) Q) (kf : x = 0 → Wm d k (pc + 3) ls t (s, u, K, R, I) Q) : Wm d k pc ls (vi x :: t) (s, u, K, R, I) Q := by
  by_cases hc : x ≠ 0
  · obtain ⟨n, r, M', h, q⟩ := kt (hc)
    exact ⟨n + 1, r, M', ⟨h.mono, _, _, hd, Or.inr ⟨rfl, x, t, rfl, tgt, ht, fun _ => h, fun h2 => absurd hc h2⟩⟩, q⟩
  · obtain ⟨n, r, M', h, q⟩ := kf (Classical.not_not.mp hc)
    exact ⟨n + 1, r, M', ⟨h.mono, _, _, hd, Or.inr ⟨rfl, x, t, rfl, tgt, ht, fun h2 => absurd h2 hc, fun _ => h⟩⟩, q⟩
theorem s_icmp_lt {d k pc : Nat} {ls t : List MV} {s u : Nat} {K : Nat → Nat × Nat} {R : Nat → Nat → Option Nat} {I : Nat → Nat → Int} {Q : Option MV → MM → Prop} {off : Int} {x y : Int} (tgt : Nat) (hd : decode (mcode k) pc = .ok (.if_icmp .lt off, 3)) (ht : (pc : Int) + off = (tgt : Int)) (kt : x < y → Wm d k tgt ls t (s, u, K, R, I) Q) (kf : y ≤ x → Wm d k (pc + 3) ls t (s, u, K, R, I) Q) : Wm d k pc ls (vi y :: vi x :: t) (s, u, K, R, I) Q := by
  by_cases hc : x < y
  · obtain ⟨n, r, M', h, q⟩ := kt (hc)
    exact ⟨n + 1, r, M', ⟨h.mono, _, _, hd, Or.inr ⟨rfl, x, y, t, rfl, tgt, ht, fun _ => h, fun h2 => absurd hc h2⟩⟩, q⟩
  · obtain ⟨n, r, M', h, q⟩ := kf (Int.not_lt.mp hc)
    exact ⟨n + 1, r, M', ⟨h.mono, _, _, hd, Or.inr ⟨rfl, x, y, t, rfl, tgt, ht, fun h2 => absurd h2 hc, fun _ => h⟩⟩, q⟩
theorem s_if_lt {d k pc : Nat} {ls t : List MV} {s u : Nat} {K : Nat → Nat × Nat} {R : Nat → Nat → Option Nat} {I : Nat → Nat → Int} {Q : Option MV → MM → Prop} {off : Int} {x : Int} (tgt : Nat) (hd : decode (mcode k) pc = .ok (.ifCond .lt off, 3)) (ht : (pc : Int) + off = (tgt : Int)) (kt : x < 0 → Wm d k tgt ls t (s, u, K, R, I) Q) (kf : 0 ≤ x → Wm d k (pc + 3) ls t (s, u, K, R, I) Q) : Wm d k pc ls (vi x :: t) (s, u, K, R, I) Q := by
  by_cases hc : x < 0
  · obtain ⟨n, r, M', h, q⟩ := kt (hc)
    exact ⟨n + 1, r, M', ⟨h.mono, _, _, hd, Or.inr ⟨rfl, x, t, rfl, tgt, ht, fun _ => h, fun h2 => absurd hc h2⟩⟩, q⟩
  · obtain ⟨n, r, M', h, q⟩ := kf (Int.not_lt.mp hc)
    exact ⟨n + 1, r, M', ⟨h.mono, _, _, hd, Or.inr ⟨rfl, x, t, rfl, tgt, ht, fun h2 => absurd h2 hc, fun _ => h⟩⟩, q⟩
theorem s_icmp_ge {d k pc : Nat} {ls t : List MV} {s u : Nat} {K : Nat → Nat × Nat} {R : Nat → Nat → Option Nat} {I : Nat → Nat → Int} {Q : Option MV → MM → Prop} {off : Int} {x y : Int} (tgt : Nat) (hd : decode (mcode k) pc = .ok (.if_icmp .ge off, 3)) (ht : (pc : Int) + off = (tgt : Int)) (kt : y ≤ x → Wm d k tgt ls t (s, u, K, R, I) Q) (kf : x < y → Wm d k (pc + 3) ls t (s, u, K, R, I) Q) : Wm d k pc ls (vi y :: vi x :: t) (s, u, K, R, I) Q := by
  by_cases hc : y ≤ x
  · obtain ⟨n, r, M', h, q⟩ := kt (hc)
    exact ⟨n + 1, r, M', ⟨h.mono, _, _, hd, Or.inr ⟨rfl, x, y, t, rfl, tgt, ht, fun _ => h, fun h2 => absurd hc h2⟩⟩, q⟩
  · obtain ⟨n, r, M', h, q⟩ := kf (Int.not_le.mp hc)
    exact ⟨n + 1, r, M', ⟨h.mono, _, _, hd, Or.inr ⟨rfl, x, y, t, rfl, tgt, ht, fun h2 => absurd h2 hc, fun _ => h⟩⟩, q⟩
theorem s_if_ge {d k pc : Nat} {ls t : List MV} {s u : Nat} {K : Nat → Nat × Nat} {R : Nat → Nat → Option Nat} {I : Nat → Nat → Int} {Q : Option MV → MM → Prop} {off : Int} {x : Int} (tgt : Nat) (hd : decode (mcode k) pc = .ok (.ifCond .ge off, 3)) (ht : (pc : Int) + off = (tgt : Int)) (kt : 0 ≤ x → Wm d k tgt ls t (s, u, K, R, I) Q) (kf : x < 0 → Wm d k (pc + 3) ls t (s, u, K, R, I) Q) : Wm d k pc ls (vi x :: t) (s, u, K, R, I) Q := by
  by_cases hc : 0 ≤ x
  · obtain ⟨n, r, M', h, q⟩ := kt (hc)
    exact ⟨n + 1, r, M', ⟨h.mono, _, _, hd, Or.inr ⟨rfl, x, t, rfl, tgt, ht, fun _ => h, fun h2 => absurd hc h2⟩⟩, q⟩
  · obtain ⟨n, r, M', h, q⟩ := kf (Int.not_le.mp hc)
    exact ⟨n + 1, r, M', ⟨h.mono, _, _, hd, Or.inr ⟨rfl, x, t, rfl, tgt, ht, fun h2 => absurd h2 hc, fun _ => h⟩⟩, q⟩
theorem s_icmp_gt {d k pc : Nat} {ls t : List MV} {s u : Nat} {K : Nat → Nat × Nat} {R : Nat → Nat → Option Nat} {I : Nat → Nat → Int} {Q : Option MV → MM → Prop} {off : Int} {x y : Int} (tgt : Nat) (hd : decode (mcode k) pc = .ok (.if_icmp .gt off, 3)) (ht : (pc : Int) + off = (tgt : Int)) (kt : y < x → Wm d k tgt ls t (s, u, K, R, I) Q) (kf : x ≤ y → Wm d k (pc + 3) ls t (s, u, K, R, I) Q) : Wm d k pc ls (vi y :: vi x :: t) (s, u, K, R, I) Q := by
  by_cases hc : y < x
  · obtain ⟨n, r, M', h, q⟩ := kt (hc)
    exact ⟨n + 1, r, M', ⟨h.mono, _, _, hd, Or.inr ⟨rfl, x, y, t, rfl, tgt, ht, fun _ => h, fun h2 => absurd hc h2⟩⟩, q⟩
  · obtain ⟨n, r, M', h, q⟩ := kf (Int.not_lt.mp hc)
    exact ⟨n + 1, r, M', ⟨h.mono, _, _, hd, Or.inr ⟨rfl, x, y, t, rfl, tgt, ht, fun h2 => absurd h2 hc, fun _ => h⟩⟩, q⟩
theorem s_if_gt {d k pc : Nat} {ls t : List MV} {s u : Nat} {K : Nat → Nat × Nat} {R : Nat → Nat → Option Nat} {I : Nat → Nat → Int} {Q : Option MV → MM → Prop} {off : Int} {x : Int} (tgt : Nat) (hd : decode (mcode k) pc = .ok (.ifCond .gt off, 3)) (ht : (pc : Int) + off = (tgt : Int)) (kt : 0 < x → Wm d k tgt ls t (s, u, K, R, I) Q) (kf : x ≤ 0 → Wm d k (pc + 3) ls t (s, u, K, R, I) Q) : Wm d k pc ls (vi x :: t) (s, u, K, R, I) Q := by
  by_cases hc : 0 < x
  · obtain ⟨n, r, M', h, q⟩ := kt (hc)
    exact ⟨n + 1, r, M', ⟨h.mono, _, _, hd, Or.inr ⟨rfl, x, t, rfl, tgt, ht, fun _ => h, fun h2 => absurd hc h2⟩⟩, q⟩
  · obtain ⟨n, r, M', h, q⟩ := kf (Int.not_lt.mp hc)
    exact ⟨n + 1, r, M', ⟨h.mono, _, _, hd, Or.inr ⟨rfl, x, t, rfl, tgt, ht, fun h2 => absurd h2 hc, fun _ => h⟩⟩, q⟩
theorem s_icmp_le {d k pc : Nat} {ls t : List MV} {s u : Nat} {K : Nat → Nat × Nat} {R : Nat → Nat → Option Nat} {I : Nat → Nat → Int} {Q : Option MV → MM → Prop} {off : Int} {x y : Int} (tgt : Nat) (hd : decode (mcode k) pc = .ok (.if_icmp .le off, 3)) (ht : (pc : Int) + off = (tgt : Int)) (kt : x ≤ y → Wm d k tgt ls t (s, u, K, R, I) Q) (kf : y < x → Wm d k (pc + 3) ls t (s, u, K, R, I) Q) : Wm d k pc ls (vi y :: vi x :: t) (s, u, K, R, I) Q := by
  by_cases hc : x ≤ y
  · obtain ⟨n, r, M', h, q⟩ := kt (hc)
    exact ⟨n + 1, r, M', ⟨h.mono, _, _, hd, Or.inr ⟨rfl, x, y, t, rfl, tgt, ht, fun _ => h, fun h2 => absurd hc h2⟩⟩, q⟩
  · obtain ⟨n, r, M', h, q⟩ := kf (Int.not_le.mp hc)
    exact ⟨n + 1, r, M', ⟨h.mono, _, _, hd, Or.inr ⟨rfl, x, y, t, rfl, tgt, ht, fun h2 => absurd h2 hc, fun _ => h⟩⟩, q⟩
theorem s_if_le {d k pc : Nat} {ls t : List MV} {s u : Nat} {K : Nat → Nat × Nat} {R : Nat → Nat → Option Nat} {I : Nat → Nat → Int} {Q : Option MV → MM → Prop} {off : Int} {x : Int} (tgt : Nat) (hd : decode (mcode k) pc = .ok (.ifCond .le off, 3)) (ht : (pc : Int) + off = (tgt : Int)) (kt : x ≤ 0 → Wm d k tgt ls t (s, u, K, R, I) Q) (kf : 0 < x → Wm d k (pc + 3) ls t (s, u, K, R, I) Q) : Wm d k pc ls (vi x :: t) (s, u, K, R, I) Q := by
  by_cases hc : x ≤ 0
  · obtain ⟨n, r, M', h, q⟩ := kt (hc)
    exact ⟨n + 1, r, M', ⟨h.mono, _, _, hd, Or.inr ⟨rfl, x, t, rfl, tgt, ht, fun _ => h, fun h2 => absurd hc h2⟩⟩, q⟩
  · obtain ⟨n, r, M', h, q⟩ := kf (Int.not_le.mp hc)
    exact ⟨n + 1, r, M', ⟨h.mono, _, _, hd, Or.inr ⟨rfl, x, t, rfl, tgt, ht, fun h2 => absurd h2 hc, fun _ => h⟩⟩, q⟩
theorem s_ifnull {d k pc : Nat} {ls t : List MV} {s u : Nat} {K : Nat → Nat × Nat} {R : Nat → Nat → Option Nat} {I : Nat → Nat → Int} {Q : Option MV → MM → Prop} {off : Int} {x : Option Nat} (tgt : Nat) (hd : decode (mcode k) pc = .ok (.ifnull off, 3)) (ht : (pc : Int) + off = (tgt : Int)) (kt : x = none → Wm d k tgt ls t (s, u, K, R, I) Q) (kf : x ≠ none → Wm d k (pc + 3) ls t (s, u, K, R, I) Q) : Wm d k pc ls (vq x :: t) (s, u, K, R, I) Q := by
  by_cases hc : x = none
  · obtain ⟨n, r, M', h, q⟩ := kt (hc)
    exact ⟨n + 1, r, M', ⟨h.mono, _, _, hd, Or.inr ⟨rfl, x, t, rfl, tgt, ht, fun _ => h, fun h2 => absurd hc h2⟩⟩, q⟩
  · obtain ⟨n, r, M', h, q⟩ := kf (hc)
    exact ⟨n + 1, r, M', ⟨h.mono, _, _, hd, Or.inr ⟨rfl, x, t, rfl, tgt, ht, fun h2 => absurd h2 hc, fun _ => h⟩⟩, q⟩
theorem s_ifnonnull {d k pc : Nat} {ls t : List MV} {s u : Nat} {K : Nat → Nat × Nat} {R : Nat → Nat → Option Nat} {I : Nat → Nat → Int} {Q : Option MV → MM → Prop} {off : Int} {x : Option Nat} (tgt : Nat) (hd : decode (mcode k) pc = .ok (.ifnonnull off, 3)) (ht : (pc : Int) + off = (tgt : Int)) (kt : x ≠ none → Wm d k tgt ls t (s, u, K, R, I) Q) (kf : x = none → Wm d k (pc + 3) ls t (s, u, K, R, I) Q) : Wm d k pc ls (vq x :: t) (s, u, K, R, I) Q := by
  by_cases hc : x ≠ none
  · obtain ⟨n, r, M', h, q⟩ := kt (hc)
    exact ⟨n + 1, r, M', ⟨h.mono, _, _, hd, Or.inr ⟨rfl, x, t, rfl, tgt, ht, fun _ => h, fun h2 => absurd h2 hc⟩⟩, q⟩
  · obtain ⟨n, r, M', h, q⟩ := kf (Classical.not_not.mp hc)
    exact ⟨n + 1, r, M', ⟨h.mono, _, _, hd, Or.inr ⟨rfl, x, t, rfl, tgt, ht, fun h2 => absurd h2 hc, fun _ => h⟩⟩, q⟩
theorem s_swIn {d k pc : Nat} {ls t : List MV} {s u : Nat} {K : Nat → Nat × Nat} {R : Nat → Nat → Option Nat} {I : Nat → Nat → Int} {Q : Option MV → MM → Prop} {df lo hi : Int} {offs : Array Int} {len : Nat} {x : Int} (off : Int) (tgt : Nat) (hd : decode (mcode k) pc = .ok (.tableswitch df lo hi offs, len)) (h1 : lo ≤ x) (h2 : x ≤ hi) (ho : offs[(x - lo).toNat]? = some off) (ht : (pc : Int) + off = (tgt : Int)) (kk : Wm d k (tgt) (ls) (t) (s, u, K, R, I) Q) : Wm d k pc ls (vi x :: t) (s, u, K, R, I) Q := by
  obtain ⟨n9, r, M', h, q⟩ := kk
  exact ⟨n9 + 1, r, M', ⟨h.mono, _, _, hd, Or.inr ⟨x, t, rfl, Or.inr ⟨Int.not_lt.mpr h1, Int.not_lt.mpr h2, off, tgt, ho, ht, h⟩⟩⟩, q⟩
theorem s_swOut {d k pc : Nat} {ls t : List MV} {s u : Nat} {K : Nat → Nat × Nat} {R : Nat → Nat → Option Nat} {I : Nat → Nat → Int} {Q : Option MV → MM → Prop} {df lo hi : Int} {offs : Array Int} {len : Nat} {x : Int} (tgt : Nat) (hd : decode (mcode k) pc = .ok (.tableswitch df lo hi offs, len)) (h1 : x < lo ∨ hi < x) (ht : (pc : Int) + df = (tgt : Int)) (kk : Wm d k (tgt) (ls) (t) (s, u, K, R, I) Q) : Wm d k pc ls (vi x :: t) (s, u, K, R, I) Q := by
  obtain ⟨n9, r, M', h, q⟩ := kk
  exact ⟨n9 + 1, r, M', ⟨h.mono, _, _, hd, Or.inr ⟨x, t, rfl, Or.inl ⟨h1, tgt, ht, h⟩⟩⟩, q⟩
theorem s_getI {d k pc : Nat} {ls t : List MV} {s u : Nat} {K : Nat → Nat × Nat} {R : Nat → Nat → Option Nat} {I : Nat → Nat → Int} {Q : Option MV → MM → Prop} {idx c j a : Nat} {x : Int} (hd : decode (mcode k) pc = .ok (.getfield idx, 3)) (hp : pool (mcls k) idx = some (1, c, j)) (ha : K a = (c, 0)) (hv : I a j = x) (kk : Wm d k (pc + 3) (ls) (vi x :: t) (s, u, K, R, I) Q) : Wm d k pc ls (vr a :: t) (s, u, K, R, I) Q := by
  obtain ⟨n9, r, M', h, q⟩ := kk
  exact ⟨n9 + 1, r, M', ⟨h.mono, _, _, hd, Or.inr ⟨rfl, 1, c, j, a, t, vi x, rfl, hp, ha, Or.inl ⟨rfl, congrArg vi hv.symm⟩, h⟩⟩, q⟩
theorem s_getZ {d k pc : Nat} {ls t : List MV} {s u : Nat} {K : Nat → Nat × Nat} {R : Nat → Nat → Option Nat} {I : Nat → Nat → Int} {Q : Option MV → MM → Prop} {idx c j a : Nat} {x : Int} (hd : decode (mcode k) pc = .ok (.getfield idx, 3)) (hp : pool (mcls k) idx = some (2, c, j)) (ha : K a = (c, 0)) (hv : I a j = x) (kk : Wm d k (pc + 3) (ls) (vi x :: t) (s, u, K, R, I) Q) : Wm d k pc ls (vr a :: t) (s, u, K, R, I) Q := by
  obtain ⟨n9, r, M', h, q⟩ := kk
  exact ⟨n9 + 1, r, M', ⟨h.mono, _, _, hd, Or.inr ⟨rfl, 2, c, j, a, t, vi x, rfl, hp, ha, Or.inr (Or.inl ⟨rfl, congrArg vi hv.symm⟩), h⟩⟩, q⟩
theorem s_getR {d k pc : Nat} {ls t : List MV} {s u : Nat} {K : Nat → Nat × Nat} {R : Nat → Nat → Option Nat} {I : Nat → Nat → Int} {Q : Option MV → MM → Prop} {idx c j a b : Nat} (hd : decode (mcode k) pc = .ok (.getfield idx, 3)) (hp : pool (mcls k) idx = some (3, c, j)) (ha : K a = (c, 0)) (hv : R a j = some b) (kk : Wm d k (pc + 3) (ls) (vr b :: t) (s, u, K, R, I) Q) : Wm d k pc ls (vr a :: t) (s, u, K, R, I) Q := by
  obtain ⟨n9, r, M', h, q⟩ := kk
  exact ⟨n9 + 1, r, M', ⟨h.mono, _, _, hd, Or.inr ⟨rfl, 3, c, j, a, t, vr b, rfl, hp, ha, Or.inr (Or.inr ⟨rfl, congrArg vq hv.symm⟩), h⟩⟩, q⟩
theorem s_getQ {d k pc : Nat} {ls t : List MV} {s u : Nat} {K : Nat → Nat × Nat} {R : Nat → Nat → Option Nat} {I : Nat → Nat → Int} {Q : Option MV → MM → Prop} {idx c j a : Nat} {b : Option Nat} (hd : decode (mcode k) pc = .ok (.getfield idx, 3)) (hp : pool (mcls k) idx = some (3, c, j)) (ha : K a = (c, 0)) (hv : R a j = b) (kk : Wm d k (pc + 3) (ls) (vq b :: t) (s, u, K, R, I) Q) : Wm d k pc ls (vr a :: t) (s, u, K, R, I) Q := by
  obtain ⟨n9, r, M', h, q⟩ := kk
  exact ⟨n9 + 1, r, M', ⟨h.mono, _, _, hd, Or.inr ⟨rfl, 3, c, j, a, t, vq b, rfl, hp, ha, Or.inr (Or.inr ⟨rfl, congrArg vq hv.symm⟩), h⟩⟩, q⟩
theorem s_putI {d k pc : Nat} {ls t : List MV} {s u : Nat} {K : Nat → Nat × Nat} {R : Nat → Nat → Option Nat} {I : Nat → Nat → Int} {Q : Option MV → MM → Prop} {idx c j a : Nat} {x : Int} {I2 : Nat → Nat → Int} (hd : decode (mcode k) pc = .ok (.putfield idx, 3)) (hp : pool (mcls k) idx = some (1, c, j)) (ha : K a = (c, 0)) (hf : fn c j = false) (hi : up I a j x = I2) (kk : Wm d k (pc + 3) (ls) (t) (s, u, K, R, I2) Q) : Wm d k pc ls (vi x :: vr a :: t) (s, u, K, R, I) Q := by
  obtain ⟨n9, r, M', h, q⟩ := kk
  exact ⟨n9 + 1, r, M', ⟨h.mono, _, _, hd, Or.inr ⟨rfl, 1, c, j, a, t, vi x, _, rfl, hp, ha, Or.inl hf, Or.inl ⟨rfl, x, rfl, rfl⟩, by rw [hi]; exact h⟩⟩, q⟩
theorem s_putZ {d k pc : Nat} {ls t : List MV} {s u : Nat} {K : Nat → Nat × Nat} {R : Nat → Nat → Option Nat} {I : Nat → Nat → Int} {Q : Option MV → MM → Prop} {idx c j a : Nat} {x : Int} {I2 : Nat → Nat → Int} (hd : decode (mcode k) pc = .ok (.putfield idx, 3)) (hp : pool (mcls k) idx = some (2, c, j)) (ha : K a = (c, 0)) (hf : fn c j = false) (hx : x = 0 ∨ x = 1) (hi : up I a j x = I2) (kk : Wm d k (pc + 3) (ls) (t) (s, u, K, R, I2) Q) : Wm d k pc ls (vi x :: vr a :: t) (s, u, K, R, I) Q := by
  obtain ⟨n9, r, M', h, q⟩ := kk
  exact ⟨n9 + 1, r, M', ⟨h.mono, _, _, hd, Or.inr ⟨rfl, 2, c, j, a, t, vi x, _, rfl, hp, ha, Or.inl hf, Or.inr (Or.inl ⟨rfl, x, rfl, hx, rfl⟩), by rw [hi]; exact h⟩⟩, q⟩
theorem s_putR {d k pc : Nat} {ls t : List MV} {s u : Nat} {K : Nat → Nat × Nat} {R : Nat → Nat → Option Nat} {I : Nat → Nat → Int} {Q : Option MV → MM → Prop} {idx c j a x : Nat} {R2 : Nat → Nat → Option Nat} (hd : decode (mcode k) pc = .ok (.putfield idx, 3)) (hp : pool (mcls k) idx = some (3, c, j)) (ha : K a = (c, 0)) (hf : fn c j = false ∨ ((mname k).name = "<init>" ∧ mcls k = c)) (hi : up R a j (some x) = R2) (kk : Wm d k (pc + 3) (ls) (t) (s, u, K, R2, I) Q) : Wm d k pc ls (vr x :: vr a :: t) (s, u, K, R, I) Q := by
  obtain ⟨n9, r, M', h, q⟩ := kk
  exact ⟨n9 + 1, r, M', ⟨h.mono, _, _, hd, Or.inr ⟨rfl, 3, c, j, a, t, vr x, _, rfl, hp, ha, hf, Or.inr (Or.inr ⟨rfl, x, rfl, rfl⟩), by rw [hi]; exact h⟩⟩, q⟩
theorem s_iald {d k pc : Nat} {ls t : List MV} {s u : Nat} {K : Nat → Nat × Nat} {R : Nat → Nat → Option Nat} {I : Nat → Nat → Int} {Q : Option MV → MM → Prop} {a n : Nat} {i x : Int} (hd : decode (mcode k) pc = .ok (.iaload, 1)) (ha : K a = (20, n)) (h0 : 0 ≤ i) (h1 : i < (n : Int)) (hv : I a i.toNat = x) (kk : Wm d k (pc + 1) (ls) (vi x :: t) (s, u, K, R, I) Q) : Wm d k pc ls (vi i :: vr a :: t) (s, u, K, R, I) Q := by
  obtain ⟨n9, r, M', h, q⟩ := kk
  exact ⟨n9 + 1, r, M', ⟨h.mono, _, _, hd, Or.inr ⟨rfl, i, a, t, n, rfl, Or.inl ha, h0, h1, by subst hv; exact h⟩⟩, q⟩
theorem s_sald {d k pc : Nat} {ls t : List MV} {s u : Nat} {K : Nat → Nat × Nat} {R : Nat → Nat → Option Nat} {I : Nat → Nat → Int} {Q : Option MV → MM → Prop} {a n : Nat} {i x : Int} (hd : decode (mcode k) pc = .ok (.iaload, 1)) (ha : K a = (23, n)) (h0 : 0 ≤ i) (h1 : i < (n : Int)) (hv : I a i.toNat = x) (kk : Wm d k (pc + 1) (ls) (vi x :: t) (s, u, K, R, I) Q) : Wm d k pc ls (vi i :: vr a :: t) (s, u, K, R, I) Q := by
  obtain ⟨n9, r, M', h, q⟩ := kk
  exact ⟨n9 + 1, r, M', ⟨h.mono, _, _, hd, Or.inr ⟨rfl, i, a, t, n, rfl, Or.inr ha, h0, h1, by subst hv; exact h⟩⟩, q⟩
theorem s_bald {d k pc : Nat} {ls t : List MV} {s u : Nat} {K : Nat → Nat × Nat} {R : Nat → Nat → Option Nat} {I : Nat → Nat → Int} {Q : Option MV → MM → Prop} {a n : Nat} {i x : Int} (hd : decode (mcode k) pc = .ok (.baload, 1)) (ha : K a = (21, n)) (h0 : 0 ≤ i) (h1 : i < (n : Int)) (hv : I a i.toNat = x) (kk : Wm d k (pc + 1) (ls) (vi x :: t) (s, u, K, R, I) Q) : Wm d k pc ls (vi i :: vr a :: t) (s, u, K, R, I) Q := by
  obtain ⟨n9, r, M', h, q⟩ := kk
  exact ⟨n9 + 1, r, M', ⟨h.mono, _, _, hd, Or.inr ⟨rfl, i, a, t, n, rfl, ha, h0, h1, by subst hv; exact h⟩⟩, q⟩
theorem s_aald {d k pc : Nat} {ls t : List MV} {s u : Nat} {K : Nat → Nat × Nat} {R : Nat → Nat → Option Nat} {I : Nat → Nat → Int} {Q : Option MV → MM → Prop} {a n : Nat} {i : Int} {x : Option Nat} (hd : decode (mcode k) pc = .ok (.aaload, 1)) (ha : K a = (22, n)) (h0 : 0 ≤ i) (h1 : i < (n : Int)) (hv : R a i.toNat = x) (kk : Wm d k (pc + 1) (ls) (vq x :: t) (s, u, K, R, I) Q) : Wm d k pc ls (vi i :: vr a :: t) (s, u, K, R, I) Q := by
  obtain ⟨n9, r, M', h, q⟩ := kk
  exact ⟨n9 + 1, r, M', ⟨h.mono, _, _, hd, Or.inr ⟨rfl, i, a, t, n, rfl, ha, h0, h1, by subst hv; exact h⟩⟩, q⟩
theorem s_iast {d k pc : Nat} {ls t : List MV} {s u : Nat} {K : Nat → Nat × Nat} {R : Nat → Nat → Option Nat} {I : Nat → Nat → Int} {Q : Option MV → MM → Prop} {a n : Nat} {i x : Int} {I2 : Nat → Nat → Int} (hd : decode (mcode k) pc = .ok (.iastore, 1)) (ha : K a = (20, n)) (h0 : 0 ≤ i) (h1 : i < (n : Int)) (hi : up I a i.toNat x = I2) (kk : Wm d k (pc + 1) (ls) (t) (s, u, K, R, I2) Q) : Wm d k pc ls (vi x :: vi i :: vr a :: t) (s, u, K, R, I) Q := by
  obtain ⟨n9, r, M', h, q⟩ := kk
  exact ⟨n9 + 1, r, M', ⟨h.mono, _, _, hd, Or.inr ⟨rfl, x, i, a, t, n, rfl, ha, h0, h1, by rw [hi]; exact h⟩⟩, q⟩
theorem s_bast {d k pc : Nat} {ls t : List MV} {s u : Nat} {K : Nat → Nat × Nat} {R : Nat → Nat → Option Nat} {I : Nat → Nat → Int} {Q : Option MV → MM → Prop} {a n : Nat} {i x : Int} {I2 : Nat → Nat → Int} (hd : decode (mcode k) pc = .ok (.bastore, 1)) (ha : K a = (21, n)) (h0 : 0 ≤ i) (h1 : i < (n : Int)) (hx : x = 0 ∨ x = 1) (hi : up I a i.toNat x = I2) (kk : Wm d k (pc + 1) (ls) (t) (s, u, K, R, I2) Q) : Wm d k pc ls (vi x :: vi i :: vr a :: t) (s, u, K, R, I) Q := by
  obtain ⟨n9, r, M', h, q⟩ := kk
  exact ⟨n9 + 1, r, M', ⟨h.mono, _, _, hd, Or.inr ⟨rfl, x, i, a, t, n, rfl, ha, h0, h1, hx, by rw [hi]; exact h⟩⟩, q⟩
theorem s_aast {d k pc : Nat} {ls t : List MV} {s u : Nat} {K : Nat → Nat × Nat} {R : Nat → Nat → Option Nat} {I : Nat → Nat → Int} {Q : Option MV → MM → Prop} {a n x : Nat} {i : Int} {R2 : Nat → Nat → Option Nat} (hd : decode (mcode k) pc = .ok (.aastore, 1)) (ha : K a = (22, n)) (hx : K x = (10, 0)) (h0 : 0 ≤ i) (h1 : i < (n : Int)) (hi : up R a i.toNat (some x) = R2) (kk : Wm d k (pc + 1) (ls) (t) (s, u, K, R2, I) Q) : Wm d k pc ls (vr x :: vi i :: vr a :: t) (s, u, K, R, I) Q := by
  obtain ⟨n9, r, M', h, q⟩ := kk
  exact ⟨n9 + 1, r, M', ⟨h.mono, _, _, hd, Or.inr ⟨rfl, x, i, a, t, n, rfl, ha, hx, h0, h1, by rw [hi]; exact h⟩⟩, q⟩
theorem s_alen {d k pc : Nat} {ls t : List MV} {s u : Nat} {K : Nat → Nat × Nat} {R : Nat → Nat → Option Nat} {I : Nat → Nat → Int} {Q : Option MV → MM → Prop} {a g n : Nat} (hd : decode (mcode k) pc = .ok (.arraylength, 1)) (ha : K a = (g, n)) (hg : g = 20 ∨ g = 21 ∨ g = 22 ∨ g = 23) (kk : Wm d k (pc + 1) (ls) (vi (n : Int) :: t) (s, u, K, R, I) Q) : Wm d k pc ls (vr a :: t) (s, u, K, R, I) Q := by
  obtain ⟨n9, r, M', h, q⟩ := kk
  exact ⟨n9 + 1, r, M', ⟨h.mono, _, _, hd, Or.inr ⟨rfl, a, t, g, n, rfl, ha, hg, h⟩⟩, q⟩
theorem s_newa {d k pc : Nat} {ls t : List MV} {s u : Nat} {K : Nat → Nat × Nat} {R : Nat → Nat → Option Nat} {I : Nat → Nat → Int} {Q : Option MV → MM → Prop} {n : Int} {ty : ArrayType} {g : Nat} (hd : decode (mcode k) pc = .ok (.newarray ty, 2)) (h0 : 0 ≤ n) (h1 : n ≤ 100000) (hg : (ty = .int ∧ g = 20) ∨ (ty = .boolean ∧ g = 21)) (kk : Wm d k (pc + 2) ls (vr s :: t) (s + 1, u + n.toNat, upk K s (g, n.toNat), upz R s none, upz I s 0) Q) : Wm d k pc ls (vi n :: t) (s, u, K, R, I) Q := by
  obtain ⟨n9, r, M', h, q⟩ := kk
  exact ⟨n9 + 1, r, M', ⟨⟨Nat.le_trans (Nat.le_succ _) h.mono.1, Nat.le_trans (Nat.le_add_right _ _) h.mono.2⟩, _, _, hd, Or.inr ⟨rfl, n, g, t, rfl, h0, h1, hg, h⟩⟩, q⟩
theorem s_anew {d k pc : Nat} {ls t : List MV} {s u : Nat} {K : Nat → Nat × Nat} {R : Nat → Nat → Option Nat} {I : Nat → Nat → Int} {Q : Option MV → MM → Prop} {n : Int} {idx : Nat} (hd : decode (mcode k) pc = .ok (.anewarray idx, 3)) (hp : pool (mcls k) idx = some (5, 10, 3)) (h0 : 0 ≤ n) (h1 : n ≤ 100000) (kk : Wm d k (pc + 3) ls (vr s :: t) (s + 1, u + n.toNat, upk K s (22, n.toNat), upz R s none, upz I s 0) Q) : Wm d k pc ls (vi n :: t) (s, u, K, R, I) Q := by
  obtain ⟨n9, r, M', h, q⟩ := kk
  exact ⟨n9 + 1, r, M', ⟨⟨Nat.le_trans (Nat.le_succ _) h.mono.1, Nat.le_trans (Nat.le_add_right _ _) h.mono.2⟩, _, _, hd, Or.inr ⟨rfl, n, t, rfl, hp, h0, h1, h⟩⟩, q⟩
theorem s_new {d k pc : Nat} {ls t : List MV} {s u : Nat} {K : Nat → Nat × Nat} {R : Nat → Nat → Option Nat} {I : Nat → Nat → Int} {Q : Option MV → MM → Prop} {c n : Nat} {idx : Nat} (hd : decode (mcode k) pc = .ok (.new idx, 3)) (hp : pool (mcls k) idx = some (5, c, n)) (kk : Wm d k (pc + 3) ls (vr s :: t) (s + 1, u + n, upk K s (c, 0), upz R s none, upz I s 0) Q) : Wm d k pc ls (t) (s, u, K, R, I) Q := by
  obtain ⟨n9, r, M', h, q⟩ := kk
  exact ⟨n9 + 1, r, M', ⟨⟨Nat.le_trans (Nat.le_succ _) h.mono.1, Nat.le_trans (Nat.le_add_right _ _) h.mono.2⟩, _, _, hd, Or.inr ⟨rfl, c, n, hp, h⟩⟩, q⟩
theorem s_inv0 {d k pc : Nat} {ls t : List MV} {s u : Nat} {K : Nat → Nat × Nat} {R : Nat → Nat → Option Nat} {I : Nat → Nat → Int} {Q : Option MV → MM → Prop} {idx y a c : Nat}  {Q1 : Option MV → MM → Prop} (hd : decode (mcode k) pc = .ok (.invokevirtual idx, 3)) (hp : pool (mcls k) idx = some (4, y, 0)) (hy : mcls y = c) (ha : K a = (c, 0)) (hs : mstat y = false) (hn : ((mname y).name == "<init>") = false) (hw : wds t ≤ 8) (hc : Rm d y [vr a] (s, u, K, R, I) Q1) (kk : ∀ r M1, Q1 r M1 → Wm d k (pc + 3) ls (r.toList ++ t) M1 Q) : Wm d k pc ls (vr a :: t) (s, u, K, R, I) Q := by
  obtain ⟨r1, M1, hr, hq⟩ := hc
  obtain ⟨n, r, M', h, q⟩ := kk r1 M1 hq
  exact ⟨n + 1, r, M', ⟨⟨Nat.le_trans hr.mono.1 h.mono.1, Nat.le_trans hr.mono.2 h.mono.2⟩, _, _, hd, Or.inr ⟨rfl, y, 0, [], a, t, r1, M1, hp, rfl, rfl, hy ▸ ha, hs, hn, hw, hr, h⟩⟩, q⟩
theorem s_ini0 {d k pc : Nat} {ls t : List MV} {s u : Nat} {K : Nat → Nat × Nat} {R : Nat → Nat → Option Nat} {I : Nat → Nat → Int} {Q : Option MV → MM → Prop} {idx y a : Nat}  {Q1 : Option MV → MM → Prop} (hd : decode (mcode k) pc = .ok (.invokespecial idx, 3)) (hp : pool (mcls k) idx = some (4, y, 0)) (hs : mstat y = false) (hn : ((mname y).name == "<init>") = true) (hw : wds t ≤ 8) (hc : Rm d y [vr a] (s, u, K, R, I) Q1) (kk : ∀ r M1, Q1 r M1 → r = none ∧ Wm d k (pc + 3) ls t M1 Q) : Wm d k pc ls (vr a :: t) (s, u, K, R, I) Q := by
  obtain ⟨r1, M1, hr, hq⟩ := hc
  obtain ⟨rfl, n, r, M', h, q⟩ := kk r1 M1 hq
  exact ⟨n + 1, r, M', ⟨⟨Nat.le_trans hr.mono.1 h.mono.1, Nat.le_trans hr.mono.2 h.mono.2⟩, _, _, hd, Or.inr ⟨rfl, Or.inl ⟨y, 0, [], a, t, M1, hp, rfl, rfl, hs, hn, hw, hr, h⟩⟩⟩, q⟩
theorem s_inv1 {d k pc : Nat} {ls t : List MV} {s u : Nat} {K : Nat → Nat × Nat} {R : Nat → Nat → Option Nat} {I : Nat → Nat → Int} {Q : Option MV → MM → Prop} {idx y a c : Nat} {x1 : MV} {Q1 : Option MV → MM → Prop} (hd : decode (mcode k) pc = .ok (.invokevirtual idx, 3)) (hp : pool (mcls k) idx = some (4, y, 1)) (hy : mcls y = c) (ha : K a = (c, 0)) (hs : mstat y = false) (hn : ((mname y).name == "<init>") = false) (hw : wds t ≤ 8) (hc : Rm d y [vr a, x1] (s, u, K, R, I) Q1) (kk : ∀ r M1, Q1 r M1 → Wm d k (pc + 3) ls (r.toList ++ t) M1 Q) : Wm d k pc ls (x1 :: vr a :: t) (s, u, K, R, I) Q := by
  obtain ⟨r1, M1, hr, hq⟩ := hc
  obtain ⟨n, r, M', h, q⟩ := kk r1 M1 hq
  exact ⟨n + 1, r, M', ⟨⟨Nat.le_trans hr.mono.1 h.mono.1, Nat.le_trans hr.mono.2 h.mono.2⟩, _, _, hd, Or.inr ⟨rfl, y, 1, [x1], a, t, r1, M1, hp, rfl, rfl, hy ▸ ha, hs, hn, hw, hr, h⟩⟩, q⟩
theorem s_ini1 {d k pc : Nat} {ls t : List MV} {s u : Nat} {K : Nat → Nat × Nat} {R : Nat → Nat → Option Nat} {I : Nat → Nat → Int} {Q : Option MV → MM → Prop} {idx y a : Nat} {x1 : MV} {Q1 : Option MV → MM → Prop} (hd : decode (mcode k) pc = .ok (.invokespecial idx, 3)) (hp : pool (mcls k) idx = some (4, y, 1)) (hs : mstat y = false) (hn : ((mname y).name == "<init>") = true) (hw : wds t ≤ 8) (hc : Rm d y [vr a, x1] (s, u, K, R, I) Q1) (kk : ∀ r M1, Q1 r M1 → r = none ∧ Wm d k (pc + 3) ls t M1 Q) : Wm d k pc ls (x1 :: vr a :: t) (s, u, K, R, I) Q := by
  obtain ⟨r1, M1, hr, hq⟩ := hc
  obtain ⟨rfl, n, r, M', h, q⟩ := kk r1 M1 hq
  exact ⟨n + 1, r, M', ⟨⟨Nat.le_trans hr.mono.1 h.mono.1, Nat.le_trans hr.mono.2 h.mono.2⟩, _, _, hd, Or.inr ⟨rfl, Or.inl ⟨y, 1, [x1], a, t, M1, hp, rfl, rfl, hs, hn, hw, hr, h⟩⟩⟩, q⟩
theorem s_sta1 {d k pc : Nat} {ls t : List MV} {s u : Nat} {K : Nat → Nat × Nat} {R : Nat → Nat → Option Nat} {I : Nat → Nat → Int} {Q : Option MV → MM → Prop} {idx y : Nat} {x1 : MV} {Q1 : Option MV → MM → Prop} (hd : decode (mcode k) pc = .ok (.invokestatic idx, 3)) (hp : pool (mcls k) idx = some (4, y, 1)) (hs : mstat y = true) (hw : wds t ≤ 8) (hc : Rm d y [x1] (s, u, K, R, I) Q1) (kk : ∀ r M1, Q1 r M1 → Wm d k (pc + 3) ls (r.toList ++ t) M1 Q) : Wm d k pc ls (x1 :: t) (s, u, K, R, I) Q := by
  obtain ⟨r1, M1, hr, hq⟩ := hc
  obtain ⟨n, r, M', h, q⟩ := kk r1 M1 hq
  exact ⟨n + 1, r, M', ⟨⟨Nat.le_trans hr.mono.1 h.mono.1, Nat.le_trans hr.mono.2 h.mono.2⟩, _, _, hd, Or.inr ⟨rfl, Or.inl ⟨y, 1, [x1], t, r1, M1, hp, rfl, rfl, hs, hw, hr, h⟩⟩⟩, q⟩
theorem s_inv2 {d k pc : Nat} {ls t : List MV} {s u : Nat} {K : Nat → Nat × Nat} {R : Nat → Nat → Option Nat} {I : Nat → Nat → Int} {Q : Option MV → MM → Prop} {idx y a c : Nat} {x1 x2 : MV} {Q1 : Option MV → MM → Prop} (hd : decode (mcode k) pc = .ok (.invokevirtual idx, 3)) (hp : pool (mcls k) idx = some (4, y, 2)) (hy : mcls y = c) (ha : K a = (c, 0)) (hs : mstat y = false) (hn : ((mname y).name == "<init>") = false) (hw : wds t ≤ 8) (hc : Rm d y [vr a, x1, x2] (s, u, K, R, I) Q1) (kk : ∀ r M1, Q1 r M1 → Wm d k (pc + 3) ls (r.toList ++ t) M1 Q) : Wm d k pc ls (x2 :: x1 :: vr a :: t) (s, u, K, R, I) Q := by
  obtain ⟨r1, M1, hr, hq⟩ := hc
  obtain ⟨n, r, M', h, q⟩ := kk r1 M1 hq
  exact ⟨n + 1, r, M', ⟨⟨Nat.le_trans hr.mono.1 h.mono.1, Nat.le_trans hr.mono.2 h.mono.2⟩, _, _, hd, Or.inr ⟨rfl, y, 2, [x1, x2], a, t, r1, M1, hp, rfl, rfl, hy ▸ ha, hs, hn, hw, hr, h⟩⟩, q⟩
theorem s_sta2 {d k pc : Nat} {ls t : List MV} {s u : Nat} {K : Nat → Nat × Nat} {R : Nat → Nat → Option Nat} {I : Nat → Nat → Int} {Q : Option MV → MM → Prop} {idx y : Nat} {x1 x2 : MV} {Q1 : Option MV → MM → Prop} (hd : decode (mcode k) pc = .ok (.invokestatic idx, 3)) (hp : pool (mcls k) idx = some (4, y, 2)) (hs : mstat y = true) (hw : wds t ≤ 8) (hc : Rm d y [x1, x2] (s, u, K, R, I) Q1) (kk : ∀ r M1, Q1 r M1 → Wm d k (pc + 3) ls (r.toList ++ t) M1 Q) : Wm d k pc ls (x2 :: x1 :: t) (s, u, K, R, I) Q := by
  obtain ⟨r1, M1, hr, hq⟩ := hc
  obtain ⟨n, r, M', h, q⟩ := kk r1 M1 hq
  exact ⟨n + 1, r, M', ⟨⟨Nat.le_trans hr.mono.1 h.mono.1, Nat.le_trans hr.mono.2 h.mono.2⟩, _, _, hd, Or.inr ⟨rfl, Or.inl ⟨y, 2, [x1, x2], t, r1, M1, hp, rfl, rfl, hs, hw, hr, h⟩⟩⟩, q⟩
theorem s_inv3 {d k pc : Nat} {ls t : List MV} {s u : Nat} {K : Nat → Nat × Nat} {R : Nat → Nat → Option Nat} {I : Nat → Nat → Int} {Q : Option MV → MM → Prop} {idx y a c : Nat} {x1 x2 x3 : MV} {Q1 : Option MV → MM → Prop} (hd : decode (mcode k) pc = .ok (.invokevirtual idx, 3)) (hp : pool (mcls k) idx = some (4, y, 3)) (hy : mcls y = c) (ha : K a = (c, 0)) (hs : mstat y = false) (hn : ((mname y).name == "<init>") = false) (hw : wds t ≤ 8) (hc : Rm d y [vr a, x1, x2, x3] (s, u, K, R, I) Q1) (kk : ∀ r M1, Q1 r M1 → Wm d k (pc + 3) ls (r.toList ++ t) M1 Q) : Wm d k pc ls (x3 :: x2 :: x1 :: vr a :: t) (s, u, K, R, I) Q := by
  obtain ⟨r1, M1, hr, hq⟩ := hc
  obtain ⟨n, r, M', h, q⟩ := kk r1 M1 hq
  exact ⟨n + 1, r, M', ⟨⟨Nat.le_trans hr.mono.1 h.mono.1, Nat.le_trans hr.mono.2 h.mono.2⟩, _, _, hd, Or.inr ⟨rfl, y, 3, [x1, x2, x3], a, t, r1, M1, hp, rfl, rfl, hy ▸ ha, hs, hn, hw, hr, h⟩⟩, q⟩
theorem s_sta3 {d k pc : Nat} {ls t : List MV} {s u : Nat} {K : Nat → Nat × Nat} {R : Nat → Nat → Option Nat} {I : Nat → Nat → Int} {Q : Option MV → MM → Prop} {idx y : Nat} {x1 x2 x3 : MV} {Q1 : Option MV → MM → Prop} (hd : decode (mcode k) pc = .ok (.invokestatic idx, 3)) (hp : pool (mcls k) idx = some (4, y, 3)) (hs : mstat y = true) (hw : wds t ≤ 8) (hc : Rm d y [x1, x2, x3] (s, u, K, R, I) Q1) (kk : ∀ r M1, Q1 r M1 → Wm d k (pc + 3) ls (r.toList ++ t) M1 Q) : Wm d k pc ls (x3 :: x2 :: x1 :: t) (s, u, K, R, I) Q := by
  obtain ⟨r1, M1, hr, hq⟩ := hc
  obtain ⟨n, r, M', h, q⟩ := kk r1 M1 hq
  exact ⟨n + 1, r, M', ⟨⟨Nat.le_trans hr.mono.1 h.mono.1, Nat.le_trans hr.mono.2 h.mono.2⟩, _, _, hd, Or.inr ⟨rfl, Or.inl ⟨y, 3, [x1, x2, x3], t, r1, M1, hp, rfl, rfl, hs, hw, hr, h⟩⟩⟩, q⟩
theorem s_inv4 {d k pc : Nat} {ls t : List MV} {s u : Nat} {K : Nat → Nat × Nat} {R : Nat → Nat → Option Nat} {I : Nat → Nat → Int} {Q : Option MV → MM → Prop} {idx y a c : Nat} {x1 x2 x3 x4 : MV} {Q1 : Option MV → MM → Prop} (hd : decode (mcode k) pc = .ok (.invokevirtual idx, 3)) (hp : pool (mcls k) idx = some (4, y, 4)) (hy : mcls y = c) (ha : K a = (c, 0)) (hs : mstat y = false) (hn : ((mname y).name == "<init>") = false) (hw : wds t ≤ 8) (hc : Rm d y [vr a, x1, x2, x3, x4] (s, u, K, R, I) Q1) (kk : ∀ r M1, Q1 r M1 → Wm d k (pc + 3) ls (r.toList ++ t) M1 Q) : Wm d k pc ls (x4 :: x3 :: x2 :: x1 :: vr a :: t) (s, u, K, R, I) Q := by
  obtain ⟨r1, M1, hr, hq⟩ := hc
  obtain ⟨n, r, M', h, q⟩ := kk r1 M1 hq
  exact ⟨n + 1, r, M', ⟨⟨Nat.le_trans hr.mono.1 h.mono.1, Nat.le_trans hr.mono.2 h.mono.2⟩, _, _, hd, Or.inr ⟨rfl, y, 4, [x1, x2, x3, x4], a, t, r1, M1, hp, rfl, rfl, hy ▸ ha, hs, hn, hw, hr, h⟩⟩, q⟩
theorem s_sta4 {d k pc : Nat} {ls t : List MV} {s u : Nat} {K : Nat → Nat × Nat} {R : Nat → Nat → Option Nat} {I : Nat → Nat → Int} {Q : Option MV → MM → Prop} {idx y : Nat} {x1 x2 x3 x4 : MV} {Q1 : Option MV → MM → Prop} (hd : decode (mcode k) pc = .ok (.invokestatic idx, 3)) (hp : pool (mcls k) idx = some (4, y, 4)) (hs : mstat y = true) (hw : wds t ≤ 8) (hc : Rm d y [x1, x2, x3, x4] (s, u, K, R, I) Q1) (kk : ∀ r M1, Q1 r M1 → Wm d k (pc + 3) ls (r.toList ++ t) M1 Q) : Wm d k pc ls (x4 :: x3 :: x2 :: x1 :: t) (s, u, K, R, I) Q := by
  obtain ⟨r1, M1, hr, hq⟩ := hc
  obtain ⟨n, r, M', h, q⟩ := kk r1 M1 hq
  exact ⟨n + 1, r, M', ⟨⟨Nat.le_trans hr.mono.1 h.mono.1, Nat.le_trans hr.mono.2 h.mono.2⟩, _, _, hd, Or.inr ⟨rfl, Or.inl ⟨y, 4, [x1, x2, x3, x4], t, r1, M1, hp, rfl, rfl, hs, hw, hr, h⟩⟩⟩, q⟩
theorem s_inv5 {d k pc : Nat} {ls t : List MV} {s u : Nat} {K : Nat → Nat × Nat} {R : Nat → Nat → Option Nat} {I : Nat → Nat → Int} {Q : Option MV → MM → Prop} {idx y a c : Nat} {x1 x2 x3 x4 x5 : MV} {Q1 : Option MV → MM → Prop} (hd : decode (mcode k) pc = .ok (.invokevirtual idx, 3)) (hp : pool (mcls k) idx = some (4, y, 5)) (hy : mcls y = c) (ha : K a = (c, 0)) (hs : mstat y = false) (hn : ((mname y).name == "<init>") = false) (hw : wds t ≤ 8) (hc : Rm d y [vr a, x1, x2, x3, x4, x5] (s, u, K, R, I) Q1) (kk : ∀ r M1, Q1 r M1 → Wm d k (pc + 3) ls (r.toList ++ t) M1 Q) : Wm d k pc ls (x5 :: x4 :: x3 :: x2 :: x1 :: vr a :: t) (s, u, K, R, I) Q := by
  obtain ⟨r1, M1, hr, hq⟩ := hc
  obtain ⟨n, r, M', h, q⟩ := kk r1 M1 hq
  exact ⟨n + 1, r, M', ⟨⟨Nat.le_trans hr.mono.1 h.mono.1, Nat.le_trans hr.mono.2 h.mono.2⟩, _, _, hd, Or.inr ⟨rfl, y, 5, [x1, x2, x3, x4, x5], a, t, r1, M1, hp, rfl, rfl, hy ▸ ha, hs, hn, hw, hr, h⟩⟩, q⟩
theorem s_obj {d k pc : Nat} {ls t : List MV} {s u : Nat} {K : Nat → Nat × Nat} {R : Nat → Nat → Option Nat} {I : Nat → Nat → Int} {Q : Option MV → MM → Prop} {idx a : Nat} (hd : decode (mcode k) pc = .ok (.invokespecial idx, 3)) (hp : pool (mcls k) idx = some (7, 0, 0)) (hw : wds t ≤ 8) (kk : Wm d k (pc + 3) (ls) (t) (s, u, K, R, I) Q) : Wm d k pc ls (vr a :: t) (s, u, K, R, I) Q := by
  obtain ⟨n9, r, M', h, q⟩ := kk
  exact ⟨n9 + 1, r, M', ⟨h.mono, _, _, hd, Or.inr ⟨rfl, Or.inr ⟨a, t, hp, rfl, hw, h⟩⟩⟩, q⟩
theorem s_copy {d k pc : Nat} {ls t : List MV} {s u : Nat} {K : Nat → Nat × Nat} {R : Nat → Nat → Option Nat} {I : Nat → Nat → Int} {Q : Option MV → MM → Prop} {idx a b g na nb : Nat} {n dp sp : Int} {I2 : Nat → Nat → Int} (hd : decode (mcode k) pc = .ok (.invokestatic idx, 3)) (hp : pool (mcls k) idx = some (6, 0, 0)) (hw : wds t ≤ 8) (ha : K a = (g, na)) (hb : K b = (g, nb)) (hg : g = 20 ∨ g = 21) (h0 : 0 ≤ n) (h1 : 0 ≤ dp) (h2 : 0 ≤ sp) (h3 : sp + n ≤ (na : Int)) (h4 : dp + n ≤ (nb : Int)) (hi : cpI I a b sp.toNat dp.toNat n.toNat = I2) (kk : Wm d k (pc + 3) (ls) (t) (s, u, K, R, I2) Q) : Wm d k pc ls (vi n :: vi dp :: vr b :: vi sp :: vr a :: t) (s, u, K, R, I) Q := by
  obtain ⟨n9, r, M', h, q⟩ := kk
  exact ⟨n9 + 1, r, M', ⟨h.mono, _, _, hd, Or.inr ⟨rfl, Or.inr (Or.inl ⟨n, dp, b, sp, a, g, na, nb, t, hp, rfl, hw, ha, hb, hg, h0, h1, h2, h3, h4, by rw [hi]; exact h⟩)⟩⟩, q⟩
theorem s_max {d k pc : Nat} {ls t : List MV} {s u : Nat} {K : Nat → Nat × Nat} {R : Nat → Nat → Option Nat} {I : Nat → Nat → Int} {Q : Option MV → MM → Prop} {idx : Nat} {x y : Int} (hd : decode (mcode k) pc = .ok (.invokestatic idx, 3)) (hp : pool (mcls k) idx = some (8, 0, 0)) (hw : wds t ≤ 8) (kk : Wm d k (pc + 3) (ls) (vi (mxI x y) :: t) (s, u, K, R, I) Q) : Wm d k pc ls (vi y :: vi x :: t) (s, u, K, R, I) Q := by
  obtain ⟨n9, r, M', h, q⟩ := kk
  exact ⟨n9 + 1, r, M', ⟨h.mono, _, _, hd, Or.inr ⟨rfl, Or.inr (Or.inr (Or.inl ⟨x, y, t, hp, rfl, hw, h⟩))⟩⟩, q⟩
theorem s_min {d k pc : Nat} {ls t : List MV} {s u : Nat} {K : Nat → Nat × Nat} {R : Nat → Nat → Option Nat} {I : Nat → Nat → Int} {Q : Option MV → MM → Prop} {idx : Nat} {x y : Int} (hd : decode (mcode k) pc = .ok (.invokestatic idx, 3)) (hp : pool (mcls k) idx = some (9, 0, 0)) (hw : wds t ≤ 8) (kk : Wm d k (pc + 3) (ls) (vi (mnI x y) :: t) (s, u, K, R, I) Q) : Wm d k pc ls (vi y :: vi x :: t) (s, u, K, R, I) Q := by
  obtain ⟨n9, r, M', h, q⟩ := kk
  exact ⟨n9 + 1, r, M', ⟨h.mono, _, _, hd, Or.inr ⟨rfl, Or.inr (Or.inr (Or.inr (Or.inl ⟨x, y, t, hp, rfl, hw, h⟩)))⟩⟩, q⟩
theorem s_abs {d k pc : Nat} {ls t : List MV} {s u : Nat} {K : Nat → Nat × Nat} {R : Nat → Nat → Option Nat} {I : Nat → Nat → Int} {Q : Option MV → MM → Prop} {idx : Nat} {x : Int} (hd : decode (mcode k) pc = .ok (.invokestatic idx, 3)) (hp : pool (mcls k) idx = some (10, 0, 0)) (hw : wds t ≤ 8) (kk : Wm d k (pc + 3) (ls) (vi (abI x) :: t) (s, u, K, R, I) Q) : Wm d k pc ls (vi x :: t) (s, u, K, R, I) Q := by
  obtain ⟨n9, r, M', h, q⟩ := kk
  exact ⟨n9 + 1, r, M', ⟨h.mono, _, _, hd, Or.inr ⟨rfl, Or.inr (Or.inr (Or.inr (Or.inr (Or.inl ⟨x, t, hp, rfl, hw, h⟩))))⟩⟩, q⟩
theorem s_absl {d k pc : Nat} {ls t : List MV} {s u : Nat} {K : Nat → Nat × Nat} {R : Nat → Nat → Option Nat} {I : Nat → Nat → Int} {Q : Option MV → MM → Prop} {idx : Nat} {x : Int} (hd : decode (mcode k) pc = .ok (.invokestatic idx, 3)) (hp : pool (mcls k) idx = some (11, 0, 0)) (hw : wds t ≤ 8) (kk : Wm d k (pc + 3) (ls) (vl (abL x) :: t) (s, u, K, R, I) Q) : Wm d k pc ls (vl x :: t) (s, u, K, R, I) Q := by
  obtain ⟨n9, r, M', h, q⟩ := kk
  exact ⟨n9 + 1, r, M', ⟨h.mono, _, _, hd, Or.inr ⟨rfl, Or.inr (Or.inr (Or.inr (Or.inr (Or.inr ⟨x, t, hp, rfl, hw, h⟩))))⟩⟩, q⟩
theorem s_iret {d k pc : Nat} {ls : List MV} {M : MM} {Q : Option MV → MM → Prop} {x : Int} (hd : decode (mcode k) pc = .ok (.ireturn, 1)) (hr : mret k = some .int) (hq : Q (some (vi x)) M) : Wm d k pc ls [vi x] M Q := ⟨1, _, M, ⟨⟨Nat.le_refl _, Nat.le_refl _⟩, _, _, hd, Or.inl ⟨⟨rfl, x, rfl, rfl, Or.inl hr⟩, rfl⟩⟩, hq⟩
theorem s_zret {d k pc : Nat} {ls : List MV} {M : MM} {Q : Option MV → MM → Prop} {x : Int} (hd : decode (mcode k) pc = .ok (.ireturn, 1)) (hr : mret k = some .boolean) (hx : x = 0 ∨ x = 1) (hq : Q (some (vi x)) M) : Wm d k pc ls [vi x] M Q := ⟨1, _, M, ⟨⟨Nat.le_refl _, Nat.le_refl _⟩, _, _, hd, Or.inl ⟨⟨rfl, x, rfl, rfl, Or.inr ⟨hr, hx⟩⟩, rfl⟩⟩, hq⟩
theorem s_lret {d k pc : Nat} {ls : List MV} {M : MM} {Q : Option MV → MM → Prop} {x : Int} (hd : decode (mcode k) pc = .ok (.lreturn, 1)) (hr : mret k = some .long) (hq : Q (some (vl x)) M) : Wm d k pc ls [vl x] M Q := ⟨1, _, M, ⟨⟨Nat.le_refl _, Nat.le_refl _⟩, _, _, hd, Or.inl ⟨⟨rfl, x, rfl, rfl, hr⟩, rfl⟩⟩, hq⟩
theorem s_vret {d k pc : Nat} {ls : List MV} {M : MM} {Q : Option MV → MM → Prop} (hd : decode (mcode k) pc = .ok (.return_, 1)) (hr : mret k = none) (hq : Q none M) : Wm d k pc ls [] M Q := ⟨1, _, M, ⟨⟨Nat.le_refl _, Nat.le_refl _⟩, _, _, hd, Or.inl ⟨⟨rfl, rfl, rfl, hr⟩, rfl⟩⟩, hq⟩
