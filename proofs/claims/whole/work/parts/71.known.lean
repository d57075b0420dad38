-- what the tables say at the law's start
theorem arrC_K {s : State} {args : Array Value} {ty : FieldType} (h : (Cond.arrayClass ty).before args s = true) : ∃ cA : ClassId, ArrOfT s cA ty ∧ s.vm.findClass ("[" ++ ty.toString) = some cA := by
  obtain ⟨cA, kA, comp, hfind, hk, hkind⟩ := Cond.arrayClass_spec h
  exact ⟨cA, fun n z => ⟨(fun k h => by cases h), kA, hk, comp, hkind⟩, hfind⟩
set_option maxRecDepth 100000 in
theorem K_start {s : State} {args : Array Value} (hts0 : ∀ w ∈ lw_tbl, w.before args s = true) : ∃ (dC : Nat → ClassId) (dI : Nat → Nat → Nat) (cI cZ cS : ClassId), gK (dC, dI) vwCl (tyW cI cZ cS) s ∧ va_AO SCN s := by
  have hts : ∀ w ∈ Wl, w.before args s = true := fun w h => hts0 w (List.mem_filter.mp h).1
  obtain ⟨c0, i0, k0⟩ := u_known (C := RX0) (T := TX0) (N := 4) (n := 4) hts wu_X0 (hts _ wl_158)
  obtain ⟨c1, i1, k1⟩ := u_known (C := RX1) (T := TX1) (N := 3) (n := 3) hts wu_X1 (hts _ wl_124)
  obtain ⟨c2, i2, k2⟩ := u_known (C := RX2) (T := TX2) (N := 7) (n := 7) hts wu_X2 (hts _ wl_68)
  obtain ⟨c3, i3, k3⟩ := u_known (C := RX3) (T := TX3) (N := 7) (n := 7) hts wu_X3 (hts _ wl_96)
  obtain ⟨c4, i4, k4⟩ := u_known (C := RX4) (T := TX4) (N := 2) (n := 2) hts wu_X4 (hts _ wl_54)
  obtain ⟨c5, i5, k5⟩ := u_known (C := RX5) (T := TX5) (N := 2) (n := 2) hts wu_X5 (hts _ wl_144)
  obtain ⟨c6, i6, k6⟩ := u_known (C := RX6) (T := TX6) (N := 8) (n := 8) hts wu_X6 (hts _ wl_46)
  obtain ⟨c7, i7, k7⟩ := u_known (C := RX7) (T := TX7) (N := 31) (n := 31) hts wu_X7 (hts _ wl_663)
  obtain ⟨cI, hI1, hI2⟩ := arrC_K (ty := .int) (hts _ wl_66)
  obtain ⟨cZ, hZ1, hZ2⟩ := arrC_K (ty := .boolean) (hts _ wl_762)
  have ho : (Cond.arrayOver (.object SCN)).before args s = true := hts0 _ (List.mem_of_getElem? (i := 132) (by decide +kernel))
  obtain ⟨comp, cS, kS, h1, h2, h3, h4, h5⟩ := Cond.arrayOver_spec ho
  refine ⟨fun c => [c0, c1, c2, c3, c4, c5, c6, c7].getD c c0, fun c => [i0, i1, i2, i3, i4, i5, i6, i7].getD c i0, cI, cZ, cS, ⟨⟨fun c q hq => ?_, fun k q hq => ?_⟩, fun w hw => ?_⟩, va_AO.of ho⟩
  · match c, hq with
    | 0, h => cases h; exact k0
    | 1, h => cases h; exact k1
    | 2, h => cases h; exact k2
    | 3, h => cases h; exact k3
    | 4, h => cases h; exact k4
    | 5, h => cases h; exact k5
    | 6, h => cases h; exact k6
    | 7, h => cases h; exact k7
    | _ + 8, h => cases h
  · match k, hq with
    | 0, h => cases h; exact ⟨hI1, hI2⟩
    | 1, h => cases h; exact ⟨hZ1, hZ2⟩
    | 2, h => cases h; exact ⟨fun n z => ⟨(fun k h => by cases h), kS, h3, comp, h4⟩, kS, comp, h3, h4, h1, h5⟩
    | _ + 3, h => cases h
  · have h1 := hts0 w (List.mem_filter.mp hw).1
    have h2 := (List.mem_filter.mp hw).2
    cases w <;> first | exact va_Nw.of rfl h1 | cases h2
