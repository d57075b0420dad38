-- the law's loop
section
variable {p : Program} {l : Launch} {e : Env} {R : Room} {s : State} {m : MethodId} {args : Array Value} {below : List Frame} {meth : Method} {c : Code} {cells slots : Nat} {Q : State → Prop} {dC : Nat → ClassId} {dI : Nat → Nat → Nat} {A0 : Nat → Prop} {H0 : Heap} {rt0 : Option FieldType} {cI cZ cS : ClassId} {b L : Nat} {xs : Nat → Int32} {a d : Nat → Nat} {A B : MM} {i : Int32}
theorem law_sw (C : gC p s m args meth c cL_law 4 rt0 RL (dC, dI) vwCl (tyW cI cZ cS) A0 H0) (hX : LX s H0 A0 b L xs) (hRm : Rm R cells slots) (hI : In5 i L) (hR : Rel A B) {x : Int32} (kk : ∀ A2 B2 : MM, Rel A2 B2 → gG p l e R s m args below meth c 4 (dC, dI) vwCl A0 H0 cells slots Q (wC a cI cS A2 ++ wD d cI cZ B2) 1040 (lvL b (a 0) (d 0) i) []) : gG p l e R s m args below meth c 4 (dC, dI) vwCl A0 H0 cells slots Q (wC a cI cS A ++ wD d cI cZ B) 32 (lvL b (a 0) (d 0) i) [.int (x &&& 31)] := by
  obtain ⟨j, hj, ej⟩ := vp_in_of (pk_andIn x (m := 31) 5 (by decide) (by decide)) (by decide)
  rw [ej]
  by_cases hb : 28 < j
  · exact g_tsOut C (tgt := 1040) dL_law_32 (Or.inr (by rw [nI_toInt (by omega)]; omega)) (by decide) (kk A B hR)
  have hb : j ≤ 28 := Nat.le_of_not_lt hb
  clear ej hj
  rcases (show j = 0 ∨ j = 1 ∨ j = 2 ∨ j = 3 ∨ j = 4 ∨ j = 5 ∨ j = 6 ∨ j = 7 ∨ j = 8 ∨ j = 9 ∨ j = 10 ∨ j = 11 ∨ j = 12 ∨ j = 13 ∨ j = 14 ∨ j = 15 ∨ j = 16 ∨ j = 17 ∨ j = 18 ∨ j = 19 ∨ j = 20 ∨ j = 21 ∨ j = 22 ∨ j = 23 ∨ j = 24 ∨ j = 25 ∨ j = 26 ∨ j = 27 ∨ j = 28 by omega) with rfl | rfl | rfl | rfl | rfl | rfl | rfl | rfl | rfl | rfl | rfl | rfl | rfl | rfl | rfl | rfl | rfl | rfl | rfl | rfl | rfl | rfl | rfl | rfl | rfl | rfl | rfl | rfl | rfl
  · exact g_tsIn C (tgt := 164) (0 : Int32) (by decide) dL_law_32 (by decide) (by decide) rfl (by decide) (br_write C hX hRm hI hR kk)
  · exact g_tsIn C (tgt := 187) (1 : Int32) (by decide) dL_law_32 (by decide) (by decide) rfl (by decide) (br_wipe C hX hRm hI hR kk)
  · exact g_tsIn C (tgt := 200) (2 : Int32) (by decide) dL_law_32 (by decide) (by decide) rfl (by decide) (br_fault C hX hRm hI hR kk)
  · exact g_tsIn C (tgt := 213) (3 : Int32) (by decide) dL_law_32 (by decide) (by decide) rfl (by decide) (br_town C hX hRm hI hR kk)
  · exact g_tsIn C (tgt := 226) (4 : Int32) (by decide) dL_law_32 (by decide) (by decide) rfl (by decide) (br_about C hX hRm hI hR kk)
  · exact g_tsIn C (tgt := 249) (5 : Int32) (by decide) dL_law_32 (by decide) (by decide) rfl (by decide) (br_walker C hX hRm hI hR kk)
  · exact g_tsIn C (tgt := 282) (6 : Int32) (by decide) dL_law_32 (by decide) (by decide) rfl (by decide) (br_need C hX hRm hI hR kk)
  · exact g_tsIn C (tgt := 315) (7 : Int32) (by decide) dL_law_32 (by decide) (by decide) rfl (by decide) (br_street C hX hRm hI hR kk)
  · exact g_tsIn C (tgt := 348) (8 : Int32) (by decide) dL_law_32 (by decide) (by decide) rfl (by decide) (br_open C hX hRm hI hR kk)
  · exact g_tsIn C (tgt := 371) (9 : Int32) (by decide) dL_law_32 (by decide) (by decide) rfl (by decide) (br_shut C hX hRm hI hR kk)
  · exact g_tsIn C (tgt := 394) (10 : Int32) (by decide) dL_law_32 (by decide) (by decide) rfl (by decide) (br_walk C hX hRm hI hR kk)
  · exact g_tsIn C (tgt := 443) (11 : Int32) (by decide) dL_law_32 (by decide) (by decide) rfl (by decide) (br_hour C hX hRm hI hR kk)
  · exact g_tsIn C (tgt := 456) (12 : Int32) (by decide) dL_law_32 (by decide) (by decide) rfl (by decide) (br_undo C hX hRm hI hR kk)
  · exact g_tsIn C (tgt := 469) (13 : Int32) (by decide) dL_law_32 (by decide) (by decide) rfl (by decide) (br_wet C hX hRm hI hR kk)
  · exact g_tsIn C (tgt := 502) (14 : Int32) (by decide) dL_law_32 (by decide) (by decide) rfl (by decide) (br_needs C hX hRm hI hR kk)
  · exact g_tsIn C (tgt := 535) (15 : Int32) (by decide) dL_law_32 (by decide) (by decide) rfl (by decide) (br_dry C hX hRm hI hR kk)
  · exact g_tsIn C (tgt := 558) (16 : Int32) (by decide) dL_law_32 (by decide) (by decide) rfl (by decide) (br_asked C hX hRm hI hR kk)
  · exact g_tsIn C (tgt := 581) (17 : Int32) (by decide) dL_law_32 (by decide) (by decide) rfl (by decide) (br_sent C hX hRm hI hR kk)
  · exact g_tsIn C (tgt := 614) (18 : Int32) (by decide) dL_law_32 (by decide) (by decide) rfl (by decide) (br_judge C hX hRm hI hR kk)
  · exact g_tsIn C (tgt := 677) (19 : Int32) (by decide) dL_law_32 (by decide) (by decide) rfl (by decide) (br_share C hX hRm hI hR kk)
  · exact g_tsIn C (tgt := 726) (20 : Int32) (by decide) dL_law_32 (by decide) (by decide) rfl (by decide) (br_feel C hX hRm hI hR kk)
  · exact g_tsIn C (tgt := 769) (21 : Int32) (by decide) dL_law_32 (by decide) (by decide) rfl (by decide) (br_unfeel C hX hRm hI hR kk)
  · exact g_tsIn C (tgt := 782) (22 : Int32) (by decide) dL_law_32 (by decide) (by decide) rfl (by decide) (br_may C hX hRm hI hR kk)
  · exact g_tsIn C (tgt := 805) (23 : Int32) (by decide) dL_law_32 (by decide) (by decide) rfl (by decide) (br_rests C hX hRm hI hR kk)
  · exact g_tsIn C (tgt := 848) (24 : Int32) (by decide) dL_law_32 (by decide) (by decide) rfl (by decide) (br_sudden C hX hRm hI hR kk)
  · exact g_tsIn C (tgt := 917) (25 : Int32) (by decide) dL_law_32 (by decide) (by decide) rfl (by decide) (br_seed C hX hRm hI hR kk)
  · exact g_tsIn C (tgt := 971) (26 : Int32) (by decide) dL_law_32 (by decide) (by decide) rfl (by decide) (br_weeks C hX hRm hI hR kk)
  · exact g_tsIn C (tgt := 994) (27 : Int32) (by decide) dL_law_32 (by decide) (by decide) rfl (by decide) (br_keep C hX hRm hI hR kk)
  · exact g_tsIn C (tgt := 1017) (28 : Int32) (by decide) dL_law_32 (by decide) (by decide) rfl (by decide) (br_again C hX hRm hI hR kk)
theorem in_k {a j L : Nat} (h : a + j < L) (hL : L ≤ 2560) : vp_in (nI a + nI j) L := by
  rw [nI_add]
  exact vp_in_nI h (by omega)
theorem room_k {k L : Nat} (hL : L ≤ 2560) (hk : 5 * k ≤ L) (c1 : ¬ nI L - 5 < nI (5 * k)) : 5 * k + 5 ≤ L := by
  by_cases h : 5 ≤ L
  · obtain ⟨M, rfl⟩ : ∃ M, L = M + 5 := ⟨L - 5, by omega⟩
    have e : nI (M + 5) - 5 = nI M := by
      rw [← nI_add M 5, show nI 5 = (5 : Int32) by decide, Int32.add_sub_cancel]
    rw [e, nI_ltI (by omega) (by omega)] at c1
    omega
  · exfalso
    have h0 : k = 0 := by omega
    subst h0
    apply c1
    rcases (show L = 0 ∨ L = 1 ∨ L = 2 ∨ L = 3 ∨ L = 4 by omega) with rfl | rfl | rfl | rfl | rfl <;> decide
theorem next_k (k : Nat) : nI (5 * k) + Int32.ofInt 5 = nI (5 * (k + 1)) := by
  rw [show (Int32.ofInt 5 : Int32) = nI 5 by decide, nI_add]
  exact congrArg nI (by omega)
set_option maxHeartbeats 4000000 in
theorem law_loop (C : gC p s m args meth c cL_law 4 rt0 RL (dC, dI) vwCl (tyW cI cZ cS) A0 H0) (hX : LX s H0 A0 b L xs) (hRm : Rm R cells slots) (hL : L ≤ 2560) (kx : ∀ (A B : MM) (i : Int32), gG p l e R s m args below meth c 4 (dC, dI) vwCl A0 H0 cells slots Q (wC a cI cS A ++ wD d cI cZ B) 1046 (lvL b (a 0) (d 0) i) []) : ∀ (n k : Nat) (A B : MM), 5 * k ≤ L → L + 1 ≤ 5 * k + n → Rel A B → gG p l e R s m args below meth c 4 (dC, dI) vwCl A0 H0 cells slots Q (wC a cI cS A ++ wD d cI cZ B) 18 (lvL b (a 0) (d 0) (nI (5 * k))) [] := by
  intro n
  induction n with
  | zero =>
    intro k A B h1 h2 _
    exact absurd h2 (by omega)
  | succ n ih =>
    intro k A B h1 h2 hR
    refine g_iload_n C dL_law_18 3 rfl rfl ?_
    refine g_aload_n C dL_law_19 0 rfl rfl ?_
    refine g_slen C hX.1 hX.2.1 hX.2.2 dL_law_20 ?_
    refine g_iconst C (v := 5) dL_law_21 rfl ?_
    refine g_isub C dL_law_22 ?_
    refine g_icmp_gt C (tgt := 1046) dL_law_23 (by decide) (fun _ => kx A B _) (fun c1 => ?_)
    have hk : 5 * k + 5 ≤ L := room_k hL h1 c1
    refine g_aload_n C dL_law_26 0 rfl rfl ?_
    refine g_iload_n C dL_law_27 3 rfl rfl ?_
    refine g_sld C hX.1 hX.2.1 hX.2.2 (vp_in_nI (by omega) (by omega)) dL_law_28 ?_
    refine g_bipush C (v := 31) dL_law_29 rfl ?_
    refine g_iand C dL_law_31 ?_
    refine law_sw C hX hRm ⟨in_k (j := 1) (by omega) hL, in_k (j := 2) (by omega) hL, in_k (j := 3) (by omega) hL, in_k (j := 4) (by omega) hL⟩ hR (fun A2 B2 hR2 => ?_)
    refine g_iinc C (v := nI (5 * (k + 1))) (lv2 := [(3, .int (nI (5 * (k + 1)))), (0, .ref b), (1, .ref (a 0)), (2, .ref (d 0))]) dL_law_1040 3 rfl (next_k k) (by decide) rfl ?_
    refine g_goto C (tgt := 18) dL_law_1043 (by decide) ?_
    exact g_sub [1, 2, 3, 0] rfl (ih (k + 1) A2 B2 (by omega) (by omega) hR2)
end
