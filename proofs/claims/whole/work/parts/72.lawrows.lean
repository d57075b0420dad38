-- rows for the law's loop: reading the script, a comparison with 0, a long out of two ints, a call on a half of the world
abbrev lvL (b q1 q2 : Nat) (i : Int32) : List (Nat × Value) := [(0, .ref b), (1, .ref q1), (2, .ref q2), (3, .int i)]
def Rm (R : Room) (cells slots : Nat) : Prop := 7 ≤ R.frames ∧ 200 ≤ R.locals ∧ cells ≤ R.cells ∧ slots ≤ R.slots
theorem Rm.h {R : Room} {cells slots fr x : Nat} (h : Rm R cells slots) (h1 : fr ≤ 6) (h2 : x ≤ 200) : fr + 1 ≤ R.frames ∧ x ≤ R.locals := ⟨Nat.le_trans (Nat.succ_le_succ h1) h.1, Nat.le_trans h2 h.2.1⟩
theorem Rm.f {R : Room} {cells slots : Nat} (h : Rm R cells slots) : cells + 0 ≤ R.cells ∧ slots + 0 ≤ R.slots := h.2.2
def LX (s : State) (H0 : Heap) (A0 : Nat → Prop) (b L : Nat) (xs : Nat → Int32) : Prop := va_X b L xs s H0 ∧ b < H0.size ∧ ¬ A0 b
section
variable {p : Program} {l : Launch} {e : Env} {R : Room} {s : State} {m : MethodId} {args : Array Value} {below : List Frame} {meth : Method} {c : Code} {cells slots : Nat} {Q : State → Prop} {D : va_G} {cl : List vw_C} {tys : List (ClassId × FieldType)} {A0 : Nat → Prop} {H0 : Heap} {cc : ByteArray} {nL : Nat} {ret : Option FieldType} {own : String} {w : va_W} {pc : Nat} {lv : List (Nat × Value)} {st : List Value}
theorem g_bool (C : gC p s m args meth c cc nL ret own D cl tys A0 H0) {v : Int32} (d1 : decode cc pc = .ok (.ifCond .eq 7, 3)) (d2 : decode cc (pc + 3) = .ok (.iconst 1, 1)) (d3 : decode cc (pc + 4) = .ok (.goto 4, 3)) (d4 : decode cc (pc + 7) = .ok (.iconst 0, 1)) (kk : gG p l e R s m args below meth c nL D cl A0 H0 cells slots Q w (pc + 8) lv (.int (if v = 0 then 0 else 1) :: st)) : gG p l e R s m args below meth c nL D cl A0 H0 cells slots Q w pc lv (.int v :: st) := by
  refine g_if_eq C (tgt := pc + 7) d1 (by omega) (fun c1 => ?_) (fun c1 => ?_)
  · rw [if_pos c1] at kk
    exact g_iconst C (v := 0) d4 rfl kk
  · rw [if_neg c1] at kk
    exact g_iconst C (v := 1) d2 rfl (g_goto C (tgt := pc + 8) d3 (by omega) kk)
theorem g_rd (C : gC p s m args meth c cc nL ret own D cl tys A0 H0) {b L q1 q2 : Nat} {xs : Nat → Int32} (hX : LX s H0 A0 b L xs) {i K : Int32} {k : Int} (hK : Int32.ofInt k = K) (hin : vp_in (i + K) L) (d0 : decode cc pc = .ok (.aload_n 0, 1)) (d1 : decode cc (pc + 1) = .ok (.iload_n 3, 1)) (d2 : decode cc (pc + 2) = .ok (.iconst k, 1)) (d3 : decode cc (pc + 3) = .ok (.iadd, 1)) (d4 : decode cc (pc + 4) = .ok (.iaload, 1)) (kk : gG p l e R s m args below meth c nL D cl A0 H0 cells slots Q w (pc + 5) (lvL b q1 q2 i) (.int (xs (i + K).toNatClampNeg) :: st)) : gG p l e R s m args below meth c nL D cl A0 H0 cells slots Q w pc (lvL b q1 q2 i) st := by
  refine g_aload_n C d0 0 rfl rfl ?_
  refine g_iload_n C d1 3 rfl rfl ?_
  refine g_iconst C d2 hK ?_
  refine g_iadd C d3 ?_
  exact g_sld C hX.1 hX.2.1 hX.2.2 hin d4 kk
def jL (x y : Int32) : Int64 := (x.toInt64 <<< ((32 : Int32).toInt64 &&& 63)) ||| (y.toInt64 &&& 4294967295)
theorem g_rd2 (C : gC p s m args meth c cc nL ret own D cl tys A0 H0) {b L q1 q2 : Nat} {xs : Nat → Int32} (hX : LX s H0 A0 b L xs) {i K K2 : Int32} {k k2 : Int} {ix : Nat} (hK : Int32.ofInt k = K) (hK2 : Int32.ofInt k2 = K2) (hin : vp_in (i + K) L) (hin2 : vp_in (i + K2) L) (hw : Cond.constantLong own ix 4294967295 ∈ Wl) (d0 : decode cc pc = .ok (.aload_n 0, 1)) (d1 : decode cc (pc + 1) = .ok (.iload_n 3, 1)) (d2 : decode cc (pc + 2) = .ok (.iconst k, 1)) (d3 : decode cc (pc + 3) = .ok (.iadd, 1)) (d4 : decode cc (pc + 4) = .ok (.iaload, 1)) (d5 : decode cc (pc + 5) = .ok (.i2l, 1)) (d6 : decode cc (pc + 6) = .ok (.bipush 32, 2)) (d8 : decode cc (pc + 8) = .ok (.lshl, 1)) (d9 : decode cc (pc + 9) = .ok (.aload_n 0, 1)) (d10 : decode cc (pc + 10) = .ok (.iload_n 3, 1)) (d11 : decode cc (pc + 11) = .ok (.iconst k2, 1)) (d12 : decode cc (pc + 12) = .ok (.iadd, 1)) (d13 : decode cc (pc + 13) = .ok (.iaload, 1)) (d14 : decode cc (pc + 14) = .ok (.i2l, 1)) (d15 : decode cc (pc + 15) = .ok (.ldc2_w ix, 3)) (d18 : decode cc (pc + 18) = .ok (.land, 1)) (d19 : decode cc (pc + 19) = .ok (.lor, 1)) (kk : gG p l e R s m args below meth c nL D cl A0 H0 cells slots Q w (pc + 20) (lvL b q1 q2 i) (.long (jL (xs (i + K).toNatClampNeg) (xs (i + K2).toNatClampNeg)) :: st)) : gG p l e R s m args below meth c nL D cl A0 H0 cells slots Q w pc (lvL b q1 q2 i) st := by
  refine g_rd C hX hK hin d0 d1 d2 d3 d4 ?_
  refine g_i2l C d5 rfl ?_
  refine g_bipush C (v := 32) d6 rfl ?_
  refine g_lshl C d8 rfl ?_
  refine g_rd C hX hK2 hin2 d9 d10 d11 d12 d13 ?_
  refine g_i2l C d14 rfl ?_
  refine g_ldc2 C hw d15 ?_
  refine g_land C d18 ?_
  exact g_lor C d19 kk
end
section
variable {p : Program} {l : Launch} {e : Env} {R : Room} {s : State} {m : MethodId} {args : Array Value} {below : List Frame} {meth : Method} {c : Code} {cells slots : Nat} {Q : State → Prop} {D : va_G} {cl : List vw_C} {tys : List (ClassId × FieldType)} {A0 : Nat → Prop} {H0 : Heap} {cc : ByteArray} {nL : Nat} {ret : Option FieldType} {own : String} {wr : va_W} {pc : Nat} {lv : List (Nat × Value)} {st : List Value} {n : Nat} {a : Nat → Nat} {g g2 : Nat → va_E}
theorem gh_i (C : gC p s m args meth c cc nL ret own D cl tys A0 H0) {y : MethodName} {bytes : ByteArray} {maxL index fr lo : Nat} {rt : Option FieldType} {rest st0 : List Value} {As : List Value} {r : Int32} (hM : KQ l D cl tys y bytes maxL rt fr lo (.ref (a 0) :: As) (wF n a g) (qI D cl (wF n a g2) r)) (hlk : Cond.methodLink own index y ∈ Wl) (ok : okV y bytes maxL rt As.length) (hv : rcv g n 0 y.cls cl) (hR : fr + 1 ≤ R.frames ∧ 8 + (maxL + 11) + lo ≤ R.locals) (hf : cells + 0 ≤ R.cells ∧ slots + 0 ≤ R.slots) (hst : st0 = As.reverse ++ .ref (a 0) :: rest) (hro : (rest.map fun v => v.category).sum ≤ 8) (hd : decode cc pc = .ok (.invokevirtual index, 3)) (kk : gG p l e R s m args below meth c nL D cl A0 H0 cells slots Q (wr ++ wF n a g2) (pc + 3) lv (.int r :: rest)) : gG p l e R s m args below meth c nL D cl A0 H0 cells slots Q (wF n a g ++ wr) pc lv st0 := by
  obtain ⟨hk0, ci, fs, rc, hg0, hc0, hc1⟩ := hv
  exact g_half_i C (As := As) (rest := rest) (b := a 0) (q0 := 0) hM hlk ok.1 ok.2.1 ok.2.2.1 ok.2.2.2.1 ⟨rfl, ok.2.2.2.2.1, ok.2.2.2.2.2.1, ok.2.2.2.2.2.2⟩ hk0 rfl hg0 hc0 hc1 hR hf hst hro hd kk
theorem gh_l (C : gC p s m args meth c cc nL ret own D cl tys A0 H0) {y : MethodName} {bytes : ByteArray} {maxL index fr lo : Nat} {rt : Option FieldType} {rest st0 : List Value} {As : List Value} {r : Int64} (hM : KQ l D cl tys y bytes maxL rt fr lo (.ref (a 0) :: As) (wF n a g) (qL D cl (wF n a g2) r)) (hlk : Cond.methodLink own index y ∈ Wl) (ok : okV y bytes maxL rt As.length) (hv : rcv g n 0 y.cls cl) (hR : fr + 1 ≤ R.frames ∧ 8 + (maxL + 11) + lo ≤ R.locals) (hf : cells + 0 ≤ R.cells ∧ slots + 0 ≤ R.slots) (hst : st0 = As.reverse ++ .ref (a 0) :: rest) (hro : (rest.map fun v => v.category).sum ≤ 8) (hd : decode cc pc = .ok (.invokevirtual index, 3)) (kk : gG p l e R s m args below meth c nL D cl A0 H0 cells slots Q (wr ++ wF n a g2) (pc + 3) lv (.long r :: rest)) : gG p l e R s m args below meth c nL D cl A0 H0 cells slots Q (wF n a g ++ wr) pc lv st0 := by
  obtain ⟨hk0, ci, fs, rc, hg0, hc0, hc1⟩ := hv
  exact g_half_l C (As := As) (rest := rest) (b := a 0) (q0 := 0) hM hlk ok.1 ok.2.1 ok.2.2.1 ok.2.2.2.1 ⟨rfl, ok.2.2.2.2.1, ok.2.2.2.2.2.1, ok.2.2.2.2.2.2⟩ hk0 rfl hg0 hc0 hc1 hR hf hst hro hd kk
end
