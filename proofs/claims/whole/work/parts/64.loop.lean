-- FirstUmbrella.scenes
def scene5 (cI : ClassId) (pl : Nat) (v : Nat → Nat) : va_W := [(v 0, .inr (3, [.ref pl, .ref (v 1), .ref (v 2), .ref (v 3), .ref (v 4), .int 0, .int 0])), (v 1, .inl (cI, 5, .inl (fun _ => 0))), (v 2, .inl (cI, 6, .inl (fun _ => 0))), (v 3, .inl (cI, 6, .inl (fun _ => 0))), (v 4, .inl (cI, 5, .inl (fun _ => 0)))]
def scF (vs : List (Nat → Nat)) (i : Nat) : Option Nat := (vs[i]?).map (fun v => v 0)
def scW (cI cS : ClassId) (pl q N : Nat) (vs : List (Nat → Nat)) : va_W := (q, .inl (cS, N, .inr (.inr (.inr (.inr (scF vs)))))) :: vs.flatMap (scene5 cI pl)
theorem scW_len (cI cS : ClassId) (pl q N : Nat) : ∀ vs : List (Nat → Nat), (scW cI cS pl q N vs).length = 1 + 5 * vs.length := by
  intro vs
  unfold scW
  rw [List.length_cons, List.length_flatMap]
  have : ∀ vs : List (Nat → Nat), (vs.map (fun a => (scene5 cI pl a).length)).sum = 5 * vs.length := by
    intro vs
    induction vs with
    | nil => rfl
    | cons v vs ih =>
      rw [List.map_cons, List.sum_cons, ih, List.length_cons]
      show 5 + 5 * vs.length = _
      omega
  rw [this]
  omega
theorem scF_s (vs : List (Nat → Nat)) (v : Nat → Nat) : va_up (scF vs) vs.length (some (v 0)) = scF (vs ++ [v]) := by
  funext i
  unfold va_up scF
  by_cases h : i = vs.length
  · subst h
    rw [if_pos rfl, List.getElem?_append_right (Nat.le_refl _), Nat.sub_self]
    rfl
  · rw [if_neg h]
    by_cases g : i < vs.length
    · rw [List.getElem?_append_left g]
    · rw [List.getElem?_eq_none (by omega), List.getElem?_eq_none (by rw [List.length_append]; show vs.length + 1 ≤ i; omega)]
theorem scW_s (cI cS : ClassId) (pl q N : Nat) (vs : List (Nat → Nat)) (v : Nat → Nat) : (scW cI cS pl q N vs ++ scene5 cI pl v).set 0 (q, .inl (cS, N, .inr (.inr (.inr (.inr (va_up (scF vs) vs.length (some (v 0)))))))) = scW cI cS pl q N (vs ++ [v]) := by
  unfold scW
  rw [List.cons_append, List.set_cons_zero, scF_s, List.flatMap_append, List.flatMap_cons, List.flatMap_nil, List.append_nil]
theorem k_X6_scenes (l : Launch) {dC : Nat → ClassId} {dI : Nat → Nat → Nat} {cI cZ cS : ClassId} (pl N : Nat) (hN : N ≤ 100) : KR l (dC, dI) vwCl (tyW cI cZ cS) yX6_scenes cX6_scenes 4 (some (.array (.object "FirstUmbrella$Scene"))) 2 100 (1 + 5 * N) (30 * N) [.ref pl, .int (nI N)] [] (fun vs : List (Nat → Nat) => vs.length = N) (fun vs q => scW cI cS pl q N vs) := by
  refine KR.of rfl (Nat.le_of_ble_eq_true rfl) rfl (fun p e s m args below meth c A0 C ho => ?_)
  have loop : ∀ (q d j : Nat) (vs : List (Nat → Nat)), j + d = N → vs.length = j → gG p l e ({ frames := 2, cells := 1 + 5 * N, slots := 30 * N, locals := 100 }) s m args below meth c 4 (dC, dI) vwCl A0 s.heap (1 + 5 * j) (N + 29 * j) (MQ below (va_Qr (fun vs : List (Nat → Nat) => vs.length = N) (fun u q t => va_P (dC, dI) vwCl (scW cI cS pl q N u) t.heap ∧ va_D A0 (scW cI cS pl q N u)) A0) args s (1 + 5 * N) (30 * N) A0) (scW cI cS pl q N vs) 15 [(3, .int (nI j)), (2, .ref q), (0, .ref pl), (1, .int (nI N))] [] := by
    intro q d
    induction d with
    | zero =>
      intro j vs hj hv
      have : j = N := by omega
      subst this
      refine g_iload_n C dX6_scenes_15 0 rfl rfl ?_
      refine g_aload_n C dX6_scenes_16 1 rfl rfl ?_
      refine g_alenw C 0 2 rfl rfl dX6_scenes_17 ?_
      refine g_icmp_ge C (tgt := 38) dX6_scenes_18 rfl (fun _ => ?_) (fun h => absurd (Int32.le_refl _) h)
      refine g_aload_n C dX6_scenes_38 1 rfl rfl ?_
      refine g_widen (k := 1 + 5 * j) (n := 30 * j) (by omega) (by omega) ?_
      exact fun H locs ls hP hD hS hl => W.aret C.1 C.2.1 C.2.2.1 (Or.inr ⟨_, rfl⟩) (Or.inr ⟨_, rfl⟩) (fun t ht hW => ⟨⟨vs, q, rfl, hv, by rw [ht]; exact hP, hD⟩, hS.F ht⟩) hS.2.2 dX6_scenes_39 C.2.2.2.2.2.1
    | succ d ih =>
      intro j vs hj hv
      refine g_iload_n C dX6_scenes_15 0 rfl rfl ?_
      refine g_aload_n C dX6_scenes_16 1 rfl rfl ?_
      refine g_alenw C 0 2 rfl rfl dX6_scenes_17 ?_
      refine g_icmp_ge C (tgt := 38) dX6_scenes_18 rfl (fun h => absurd h (nge (show j < N by omega) (by omega))) (fun _ => ?_)
      refine g_aload_n C dX6_scenes_21 1 rfl rfl ?_
      refine g_iload_n C dX6_scenes_22 0 rfl rfl ?_
      refine g_new C (Cn := RX3) (T := TX3) (N := 7) (ci := 3) wu_X3 tyX3 tyX3_ok wl_95 wl_96 wl_36 rfl (fs := [.null, .null, .null, .null, .null, .int 0, .int 0]) (fun j hj => by rcases (show j = 0 ∨ j = 1 ∨ j = 2 ∨ j = 3 ∨ j = 4 ∨ j = 5 ∨ j = 6 by omega) with rfl | rfl | rfl | rfl | rfl | rfl | rfl <;> rfl) (by show 1 + 5 * j + 1 ≤ 1 + 5 * N; omega) (by show N + 29 * j + 7 ≤ 30 * N; omega) dX6_scenes_23 (fun b => ?_)
      refine g_dup C dX6_scenes_26 rfl ?_
      refine g_aload_n C dX6_scenes_27 2 rfl rfl ?_
      refine g_callN0 C (U := Nat → Nat) (As := [.ref pl]) (rest := [.ref b, .int (nI j), .ref q]) (wr := scW cI cS pl q N vs) [(scW cI cS pl q N vs).length] (List.range (scW cI cS pl q N vs).length) (k_X3_init l b pl) (last_1 _ _) (last_2 _ _) (nd_range _ List.nodup_range) (nd_range _ (by simp)) (last_3 _) wl_97 wl_98 wl_36 wl_99 rfl ⟨by decide +kernel, by decide +kernel, show (parseMethodDescriptor yX3_init.desc).map (fun d => d.parameters.length) = some 1 by decide +kernel⟩ ⟨Nat.le_of_ble_eq_true rfl, Nat.le_of_ble_eq_true rfl⟩ ⟨by show 1 + 5 * j + 1 + 4 ≤ 1 + 5 * N; omega, by show N + 29 * j + 7 + 22 ≤ 30 * N; omega⟩ rfl (Nat.le_of_ble_eq_true rfl) dX6_scenes_28 (fun u => ?_)
      have hc : (nI j).toNatClampNeg = vs.length := by rw [ncl (by omega), hv]
      refine g_astq C 0 2 (scW cI cS pl q N vs).length 3 (f := scF vs) (v := b) rfl rfl (List.getElem?_append_right (Nat.le_refl _) |>.trans (by rw [Nat.sub_self]; rfl)) rfl (nI_in (show j < N by omega) (by omega)) dX6_scenes_31 (w2 := scW cI cS pl q N (vs ++ [fun k => if k = 0 then b else u (k - 1)])) (by rw [hc]; exact scW_s cI cS pl q N vs (fun k => if k = 0 then b else u (k - 1))) ?_
      refine g_iinc C dX6_scenes_32 0 rfl (v := nI (j + 1)) (nI_1 j) (by decide) rfl ?_
      refine g_goto C (tgt := 15) dX6_scenes_35 rfl ?_
      refine g_widen (k := 1 + 5 * (j + 1)) (n := N + 29 * (j + 1)) (by omega) (by omega) ?_
      exact ih (j + 1) _ (by omega) (by rw [List.length_append, hv]; rfl)
  refine g_iload_n C dX6_scenes_0 1 rfl rfl ?_
  refine g_if_ge C (tgt := 8) dX6_scenes_1 rfl (fun _ => ?_) (fun h => absurd (nI_pos' (by omega)) h)
  refine g_iload_n C dX6_scenes_8 1 rfl rfl ?_
  refine g_anew C ho (t0 := 2) rfl wl_95 (nI_pos (by omega)) (ncl (by omega)) (by omega) (by show 0 + 1 ≤ 1 + 5 * N; omega) (by show 0 + N ≤ 30 * N; omega) dX6_scenes_9 (fun q => ?_)
  refine g_astore_n C dX6_scenes_12 rfl (by decide) rfl ?_
  refine g_iconst C dX6_scenes_13 (v := 0) rfl ?_
  refine g_istore_n C dX6_scenes_14 rfl (by decide) rfl ?_
  refine g_widen (k := 1 + 5 * 0) (n := N + 29 * 0) (by omega) (by omega) ?_
  exact loop q N 0 [] (by omega) rfl
