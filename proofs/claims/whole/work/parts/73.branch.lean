-- the branches of the law
def In5 (i : Int32) (L : Nat) : Prop := vp_in (i + 1) L ∧ vp_in (i + 2) L ∧ vp_in (i + 3) L ∧ vp_in (i + 4) L
section
variable {p : Program} {l : Launch} {e : Env} {R : Room} {s : State} {m : MethodId} {args : Array Value} {below : List Frame} {meth : Method} {c : Code} {cells slots : Nat} {Q : State → Prop} {dC : Nat → ClassId} {dI : Nat → Nat → Nat} {A0 : Nat → Prop} {H0 : Heap} {rt0 : Option FieldType} {cI cZ cS : ClassId} {b L : Nat} {xs : Nat → Int32} {a d : Nat → Nat} {A B : MM} {i : Int32}
set_option maxHeartbeats 4000000 in
theorem br_write (C : gC p s m args meth c cL_law 4 rt0 RL (dC, dI) vwCl (tyW cI cZ cS) A0 H0) (hX : LX s H0 A0 b L xs) (hRm : Rm R cells slots) (hI : In5 i L) (hR : Rel A B) (kk : ∀ A2 B2 : MM, Rel A2 B2 → gG p l e R s m args below meth c 4 (dC, dI) vwCl A0 H0 cells slots Q (wC a cI cS A2 ++ wD d cI cZ B2) 1040 (lvL b (a 0) (d 0) i) []) : gG p l e R s m args below meth c 4 (dC, dI) vwCl A0 H0 cells slots Q (wC a cI cS A ++ wD d cI cZ B) 164 (lvL b (a 0) (d 0) i) [] := by
  obtain ⟨r, A2, B2, e1, e2, hR2⟩ := o_write hR (xs (i + 1).toNatClampNeg)
  refine g_aload_n C dL_law_164 1 rfl rfl ?_
  refine g_rd C hX (k := 1) (K := 1) rfl hI.1 dL_law_165 dL_law_166 dL_law_167 dL_law_168 dL_law_169 ?_
  refine gh_i C (n := 106) (a := a) (g := cC a cI cS A) (g2 := cC a cI cS A2) (As := [.int (xs (i + 1).toNatClampNeg)]) (rest := []) (k_X6_write (xs (i + 1).toNatClampNeg) A A2 r e1) wl_201 ok_X6_write rv_X6 (hRm.h (by decide) (by decide)) hRm.f rfl (Nat.le_of_ble_eq_true rfl) dL_law_170 ?_
  refine g_aload_n C dL_law_173 2 rfl rfl ?_
  refine g_rd C hX (k := 1) (K := 1) rfl hI.1 dL_law_174 dL_law_175 dL_law_176 dL_law_177 dL_law_178 ?_
  refine gh_i C (n := 16) (a := d) (g := cD d cI cZ B) (g2 := cD d cI cZ B2) (As := [.int (xs (i + 1).toNatClampNeg)]) (rest := [.int r]) (k_X7_write (xs (i + 1).toNatClampNeg) B B2 r e2) wl_763 ok_X7_write rv_X7 (hRm.h (by decide) (by decide)) hRm.f rfl (Nat.le_of_ble_eq_true rfl) dL_law_179 ?_
  exact g_icmp_eq C (tgt := 1040) dL_law_182 (by decide) (fun _ => kk A2 B2 hR2) (fun h => absurd rfl h)
set_option maxHeartbeats 4000000 in
theorem br_wipe (C : gC p s m args meth c cL_law 4 rt0 RL (dC, dI) vwCl (tyW cI cZ cS) A0 H0) (hX : LX s H0 A0 b L xs) (hRm : Rm R cells slots) (hI : In5 i L) (hR : Rel A B) (kk : ∀ A2 B2 : MM, Rel A2 B2 → gG p l e R s m args below meth c 4 (dC, dI) vwCl A0 H0 cells slots Q (wC a cI cS A2 ++ wD d cI cZ B2) 1040 (lvL b (a 0) (d 0) i) []) : gG p l e R s m args below meth c 4 (dC, dI) vwCl A0 H0 cells slots Q (wC a cI cS A ++ wD d cI cZ B) 187 (lvL b (a 0) (d 0) i) [] := by
  obtain ⟨r, A2, B2, e1, e2, hR2⟩ := o_wipe hR 
  refine g_aload_n C dL_law_187 1 rfl rfl ?_
  refine gh_i C (n := 106) (a := a) (g := cC a cI cS A) (g2 := cC a cI cS A2) (As := []) (rest := []) (k_X6_wipe A A2 r e1) wl_216 ok_X6_wipe rv_X6 (hRm.h (by decide) (by decide)) hRm.f rfl (Nat.le_of_ble_eq_true rfl) dL_law_188 ?_
  refine g_aload_n C dL_law_191 2 rfl rfl ?_
  refine gh_i C (n := 16) (a := d) (g := cD d cI cZ B) (g2 := cD d cI cZ B2) (As := []) (rest := [.int r]) (k_X7_wipe B B2 r e2) wl_771 ok_X7_wipe rv_X7 (hRm.h (by decide) (by decide)) hRm.f rfl (Nat.le_of_ble_eq_true rfl) dL_law_192 ?_
  exact g_icmp_eq C (tgt := 1040) dL_law_195 (by decide) (fun _ => kk A2 B2 hR2) (fun h => absurd rfl h)
set_option maxHeartbeats 4000000 in
theorem br_fault (C : gC p s m args meth c cL_law 4 rt0 RL (dC, dI) vwCl (tyW cI cZ cS) A0 H0) (hX : LX s H0 A0 b L xs) (hRm : Rm R cells slots) (hI : In5 i L) (hR : Rel A B) (kk : ∀ A2 B2 : MM, Rel A2 B2 → gG p l e R s m args below meth c 4 (dC, dI) vwCl A0 H0 cells slots Q (wC a cI cS A2 ++ wD d cI cZ B2) 1040 (lvL b (a 0) (d 0) i) []) : gG p l e R s m args below meth c 4 (dC, dI) vwCl A0 H0 cells slots Q (wC a cI cS A ++ wD d cI cZ B) 200 (lvL b (a 0) (d 0) i) [] := by
  obtain ⟨P0, s0, hN, hRX, hPs, hSl, hFe, hJ⟩ := id hR
  obtain ⟨r, A2, B2, e1, e2, hR2⟩ := OK2.tw hR (o_fault hRX )
  refine g_aload_n C dL_law_200 1 rfl rfl ?_
  refine gh_i C (n := 106) (a := a) (g := cC a cI cS A) (g2 := cC a cI cS A2) (As := []) (rest := []) (k_X6_fault A A2 r e1) wl_224 ok_X6_fault rv_X6 (hRm.h (by decide) (by decide)) hRm.f rfl (Nat.le_of_ble_eq_true rfl) dL_law_201 ?_
  refine g_aload_n C dL_law_204 2 rfl rfl ?_
  refine gh_i C (n := 16) (a := d) (g := cD d cI cZ B) (g2 := cD d cI cZ B2) (As := []) (rest := [.int r]) (k_X7_fault B B2 r e2) wl_775 ok_X7_fault rv_X7 (hRm.h (by decide) (by decide)) hRm.f rfl (Nat.le_of_ble_eq_true rfl) dL_law_205 ?_
  exact g_icmp_eq C (tgt := 1040) dL_law_208 (by decide) (fun _ => kk A2 B2 hR2) (fun h => absurd rfl h)
set_option maxHeartbeats 4000000 in
theorem br_town (C : gC p s m args meth c cL_law 4 rt0 RL (dC, dI) vwCl (tyW cI cZ cS) A0 H0) (hX : LX s H0 A0 b L xs) (hRm : Rm R cells slots) (hI : In5 i L) (hR : Rel A B) (kk : ∀ A2 B2 : MM, Rel A2 B2 → gG p l e R s m args below meth c 4 (dC, dI) vwCl A0 H0 cells slots Q (wC a cI cS A2 ++ wD d cI cZ B2) 1040 (lvL b (a 0) (d 0) i) []) : gG p l e R s m args below meth c 4 (dC, dI) vwCl A0 H0 cells slots Q (wC a cI cS A ++ wD d cI cZ B) 213 (lvL b (a 0) (d 0) i) [] := by
  obtain ⟨r, A2, B2, e1, e2, hR2⟩ := o_town hR 
  refine g_aload_n C dL_law_213 1 rfl rfl ?_
  refine gh_i C (n := 106) (a := a) (g := cC a cI cS A) (g2 := cC a cI cS A2) (As := []) (rest := []) (k_X6_town A A2 r e1) wl_247 ok_X6_town rv_X6 (hRm.h (by decide) (by decide)) hRm.f rfl (Nat.le_of_ble_eq_true rfl) dL_law_214 ?_
  refine g_aload_n C dL_law_217 2 rfl rfl ?_
  refine gh_i C (n := 16) (a := d) (g := cD d cI cZ B) (g2 := cD d cI cZ B2) (As := []) (rest := [.int r]) (k_X7_town B B2 r e2) wl_799 ok_X7_town rv_X7 (hRm.h (by decide) (by decide)) hRm.f rfl (Nat.le_of_ble_eq_true rfl) dL_law_218 ?_
  exact g_icmp_eq C (tgt := 1040) dL_law_221 (by decide) (fun _ => kk A2 B2 hR2) (fun h => absurd rfl h)
set_option maxHeartbeats 4000000 in
theorem br_about (C : gC p s m args meth c cL_law 4 rt0 RL (dC, dI) vwCl (tyW cI cZ cS) A0 H0) (hX : LX s H0 A0 b L xs) (hRm : Rm R cells slots) (hI : In5 i L) (hR : Rel A B) (kk : ∀ A2 B2 : MM, Rel A2 B2 → gG p l e R s m args below meth c 4 (dC, dI) vwCl A0 H0 cells slots Q (wC a cI cS A2 ++ wD d cI cZ B2) 1040 (lvL b (a 0) (d 0) i) []) : gG p l e R s m args below meth c 4 (dC, dI) vwCl A0 H0 cells slots Q (wC a cI cS A ++ wD d cI cZ B) 226 (lvL b (a 0) (d 0) i) [] := by
  obtain ⟨r, A2, B2, e1, e2, hR2⟩ := OK2.tw hR (o_about hR (xs (i + 1).toNatClampNeg))
  refine g_aload_n C dL_law_226 1 rfl rfl ?_
  refine g_rd C hX (k := 1) (K := 1) rfl hI.1 dL_law_227 dL_law_228 dL_law_229 dL_law_230 dL_law_231 ?_
  refine gh_i C (n := 106) (a := a) (g := cC a cI cS A) (g2 := cC a cI cS A2) (As := [.int (xs (i + 1).toNatClampNeg)]) (rest := []) (k_X6_about (xs (i + 1).toNatClampNeg) A A2 r e1) wl_287 ok_X6_about rv_X6 (hRm.h (by decide) (by decide)) hRm.f rfl (Nat.le_of_ble_eq_true rfl) dL_law_232 ?_
  refine g_aload_n C dL_law_235 2 rfl rfl ?_
  refine g_rd C hX (k := 1) (K := 1) rfl hI.1 dL_law_236 dL_law_237 dL_law_238 dL_law_239 dL_law_240 ?_
  refine gh_i C (n := 16) (a := d) (g := cD d cI cZ B) (g2 := cD d cI cZ B2) (As := [.int (xs (i + 1).toNatClampNeg)]) (rest := [.int r]) (k_X7_about (xs (i + 1).toNatClampNeg) B B2 r e2) wl_803 ok_X7_about rv_X7 (hRm.h (by decide) (by decide)) hRm.f rfl (Nat.le_of_ble_eq_true rfl) dL_law_241 ?_
  exact g_icmp_eq C (tgt := 1040) dL_law_244 (by decide) (fun _ => kk A2 B2 hR2) (fun h => absurd rfl h)
set_option maxHeartbeats 4000000 in
theorem br_walker (C : gC p s m args meth c cL_law 4 rt0 RL (dC, dI) vwCl (tyW cI cZ cS) A0 H0) (hX : LX s H0 A0 b L xs) (hRm : Rm R cells slots) (hI : In5 i L) (hR : Rel A B) (kk : ∀ A2 B2 : MM, Rel A2 B2 → gG p l e R s m args below meth c 4 (dC, dI) vwCl A0 H0 cells slots Q (wC a cI cS A2 ++ wD d cI cZ B2) 1040 (lvL b (a 0) (d 0) i) []) : gG p l e R s m args below meth c 4 (dC, dI) vwCl A0 H0 cells slots Q (wC a cI cS A ++ wD d cI cZ B) 249 (lvL b (a 0) (d 0) i) [] := by
  obtain ⟨P0, s0, hN, hRX, hPs, hSl, hFe, hJ⟩ := id hR
  obtain ⟨r, A2, B2, e1, e2, hR2⟩ := OK2.tw hR (o_walker hN (xs (i + 1).toNatClampNeg) (xs (i + 2).toNatClampNeg))
  cases e1
  refine g_aload_n C dL_law_249 1 rfl rfl ?_
  refine g_rd C hX (k := 1) (K := 1) rfl hI.1 dL_law_250 dL_law_251 dL_law_252 dL_law_253 dL_law_254 ?_
  refine g_rd C hX (k := 2) (K := 2) rfl hI.2.1 dL_law_255 dL_law_256 dL_law_257 dL_law_258 dL_law_259 ?_
  refine gh_i C (n := 106) (a := a) (g := cC a cI cS A) (g2 := cC a cI cS A) (As := [.int (xs (i + 1).toNatClampNeg), .int (xs (i + 2).toNatClampNeg)]) (rest := []) (k_X6_walker (xs (i + 1).toNatClampNeg) (xs (i + 2).toNatClampNeg) A) wl_332 ok_X6_walker rv_X6 (hRm.h (by decide) (by decide)) hRm.f rfl (Nat.le_of_ble_eq_true rfl) dL_law_260 ?_
  refine g_aload_n C dL_law_263 2 rfl rfl ?_
  refine g_rd C hX (k := 1) (K := 1) rfl hI.1 dL_law_264 dL_law_265 dL_law_266 dL_law_267 dL_law_268 ?_
  refine g_rd C hX (k := 2) (K := 2) rfl hI.2.1 dL_law_269 dL_law_270 dL_law_271 dL_law_272 dL_law_273 ?_
  refine gh_i C (n := 16) (a := d) (g := cD d cI cZ B) (g2 := cD d cI cZ B2) (As := [.int (xs (i + 1).toNatClampNeg), .int (xs (i + 2).toNatClampNeg)]) (rest := [.int (t_X6_walker (xs (i + 1).toNatClampNeg) (xs (i + 2).toNatClampNeg) A)]) (k_X7_walker (xs (i + 1).toNatClampNeg) (xs (i + 2).toNatClampNeg) B B2 _ e2) wl_826 ok_X7_walker rv_X7 (hRm.h (by decide) (by decide)) hRm.f rfl (Nat.le_of_ble_eq_true rfl) dL_law_274 ?_
  exact g_icmp_eq C (tgt := 1040) dL_law_277 (by decide) (fun _ => kk A B2 hR2) (fun h => absurd rfl h)
set_option maxHeartbeats 4000000 in
theorem br_need (C : gC p s m args meth c cL_law 4 rt0 RL (dC, dI) vwCl (tyW cI cZ cS) A0 H0) (hX : LX s H0 A0 b L xs) (hRm : Rm R cells slots) (hI : In5 i L) (hR : Rel A B) (kk : ∀ A2 B2 : MM, Rel A2 B2 → gG p l e R s m args below meth c 4 (dC, dI) vwCl A0 H0 cells slots Q (wC a cI cS A2 ++ wD d cI cZ B2) 1040 (lvL b (a 0) (d 0) i) []) : gG p l e R s m args below meth c 4 (dC, dI) vwCl A0 H0 cells slots Q (wC a cI cS A ++ wD d cI cZ B) 282 (lvL b (a 0) (d 0) i) [] := by
  obtain ⟨P0, s0, hN, hRX, hPs, hSl, hFe, hJ⟩ := id hR
  obtain ⟨r, A2, B2, e1, e2, hR2⟩ := OK2.tw hR (o_need hN (xs (i + 1).toNatClampNeg) (xs (i + 2).toNatClampNeg))
  cases e1
  refine g_aload_n C dL_law_282 1 rfl rfl ?_
  refine g_rd C hX (k := 1) (K := 1) rfl hI.1 dL_law_283 dL_law_284 dL_law_285 dL_law_286 dL_law_287 ?_
  refine g_rd C hX (k := 2) (K := 2) rfl hI.2.1 dL_law_288 dL_law_289 dL_law_290 dL_law_291 dL_law_292 ?_
  refine gh_i C (n := 106) (a := a) (g := cC a cI cS A) (g2 := cC a cI cS A) (As := [.int (xs (i + 1).toNatClampNeg), .int (xs (i + 2).toNatClampNeg)]) (rest := []) (k_X6_need (xs (i + 1).toNatClampNeg) (xs (i + 2).toNatClampNeg) A) wl_349 ok_X6_need rv_X6 (hRm.h (by decide) (by decide)) hRm.f rfl (Nat.le_of_ble_eq_true rfl) dL_law_293 ?_
  refine g_aload_n C dL_law_296 2 rfl rfl ?_
  refine g_rd C hX (k := 1) (K := 1) rfl hI.1 dL_law_297 dL_law_298 dL_law_299 dL_law_300 dL_law_301 ?_
  refine g_rd C hX (k := 2) (K := 2) rfl hI.2.1 dL_law_302 dL_law_303 dL_law_304 dL_law_305 dL_law_306 ?_
  refine gh_i C (n := 16) (a := d) (g := cD d cI cZ B) (g2 := cD d cI cZ B2) (As := [.int (xs (i + 1).toNatClampNeg), .int (xs (i + 2).toNatClampNeg)]) (rest := [.int (t_X6_need (xs (i + 1).toNatClampNeg) (xs (i + 2).toNatClampNeg) A)]) (k_X7_need (xs (i + 1).toNatClampNeg) (xs (i + 2).toNatClampNeg) B B2 _ e2) wl_834 ok_X7_need rv_X7 (hRm.h (by decide) (by decide)) hRm.f rfl (Nat.le_of_ble_eq_true rfl) dL_law_307 ?_
  exact g_icmp_eq C (tgt := 1040) dL_law_310 (by decide) (fun _ => kk A B2 hR2) (fun h => absurd rfl h)
set_option maxHeartbeats 4000000 in
theorem br_street (C : gC p s m args meth c cL_law 4 rt0 RL (dC, dI) vwCl (tyW cI cZ cS) A0 H0) (hX : LX s H0 A0 b L xs) (hRm : Rm R cells slots) (hI : In5 i L) (hR : Rel A B) (kk : ∀ A2 B2 : MM, Rel A2 B2 → gG p l e R s m args below meth c 4 (dC, dI) vwCl A0 H0 cells slots Q (wC a cI cS A2 ++ wD d cI cZ B2) 1040 (lvL b (a 0) (d 0) i) []) : gG p l e R s m args below meth c 4 (dC, dI) vwCl A0 H0 cells slots Q (wC a cI cS A ++ wD d cI cZ B) 315 (lvL b (a 0) (d 0) i) [] := by
  obtain ⟨P0, s0, hN, hRX, hPs, hSl, hFe, hJ⟩ := id hR
  obtain ⟨r, A2, B2, e1, e2, hR2⟩ := OK2.tw hR (o_street hN (xs (i + 1).toNatClampNeg) (xs (i + 2).toNatClampNeg))
  refine g_aload_n C dL_law_315 1 rfl rfl ?_
  refine g_rd C hX (k := 1) (K := 1) rfl hI.1 dL_law_316 dL_law_317 dL_law_318 dL_law_319 dL_law_320 ?_
  refine g_rd C hX (k := 2) (K := 2) rfl hI.2.1 dL_law_321 dL_law_322 dL_law_323 dL_law_324 dL_law_325 ?_
  refine gh_i C (n := 106) (a := a) (g := cC a cI cS A) (g2 := cC a cI cS A2) (As := [.int (xs (i + 1).toNatClampNeg), .int (xs (i + 2).toNatClampNeg)]) (rest := []) (k_X6_street (xs (i + 1).toNatClampNeg) (xs (i + 2).toNatClampNeg) A A2 r e1) wl_370 ok_X6_street rv_X6 (hRm.h (by decide) (by decide)) hRm.f rfl (Nat.le_of_ble_eq_true rfl) dL_law_326 ?_
  refine g_aload_n C dL_law_329 2 rfl rfl ?_
  refine g_rd C hX (k := 1) (K := 1) rfl hI.1 dL_law_330 dL_law_331 dL_law_332 dL_law_333 dL_law_334 ?_
  refine g_rd C hX (k := 2) (K := 2) rfl hI.2.1 dL_law_335 dL_law_336 dL_law_337 dL_law_338 dL_law_339 ?_
  refine gh_i C (n := 16) (a := d) (g := cD d cI cZ B) (g2 := cD d cI cZ B2) (As := [.int (xs (i + 1).toNatClampNeg), .int (xs (i + 2).toNatClampNeg)]) (rest := [.int r]) (k_X7_street (xs (i + 1).toNatClampNeg) (xs (i + 2).toNatClampNeg) B B2 r e2) wl_839 ok_X7_street rv_X7 (hRm.h (by decide) (by decide)) hRm.f rfl (Nat.le_of_ble_eq_true rfl) dL_law_340 ?_
  exact g_icmp_eq C (tgt := 1040) dL_law_343 (by decide) (fun _ => kk A2 B2 hR2) (fun h => absurd rfl h)
set_option maxHeartbeats 4000000 in
theorem br_open (C : gC p s m args meth c cL_law 4 rt0 RL (dC, dI) vwCl (tyW cI cZ cS) A0 H0) (hX : LX s H0 A0 b L xs) (hRm : Rm R cells slots) (hI : In5 i L) (hR : Rel A B) (kk : ∀ A2 B2 : MM, Rel A2 B2 → gG p l e R s m args below meth c 4 (dC, dI) vwCl A0 H0 cells slots Q (wC a cI cS A2 ++ wD d cI cZ B2) 1040 (lvL b (a 0) (d 0) i) []) : gG p l e R s m args below meth c 4 (dC, dI) vwCl A0 H0 cells slots Q (wC a cI cS A ++ wD d cI cZ B) 348 (lvL b (a 0) (d 0) i) [] := by
  obtain ⟨r, A2, B2, e1, e2, hR2⟩ := o_open hR (xs (i + 1).toNatClampNeg)
  refine g_aload_n C dL_law_348 1 rfl rfl ?_
  refine g_rd C hX (k := 1) (K := 1) rfl hI.1 dL_law_349 dL_law_350 dL_law_351 dL_law_352 dL_law_353 ?_
  refine gh_i C (n := 106) (a := a) (g := cC a cI cS A) (g2 := cC a cI cS A2) (As := [.int (xs (i + 1).toNatClampNeg)]) (rest := []) (k_X6_open (xs (i + 1).toNatClampNeg) A A2 r e1) wl_389 ok_X6_open rv_X6 (hRm.h (by decide) (by decide)) hRm.f rfl (Nat.le_of_ble_eq_true rfl) dL_law_354 ?_
  refine g_aload_n C dL_law_357 2 rfl rfl ?_
  refine g_rd C hX (k := 1) (K := 1) rfl hI.1 dL_law_358 dL_law_359 dL_law_360 dL_law_361 dL_law_362 ?_
  refine gh_i C (n := 16) (a := d) (g := cD d cI cZ B) (g2 := cD d cI cZ B2) (As := [.int (xs (i + 1).toNatClampNeg)]) (rest := [.int r]) (k_X7_open (xs (i + 1).toNatClampNeg) B B2 r e2) wl_847 ok_X7_open rv_X7 (hRm.h (by decide) (by decide)) hRm.f rfl (Nat.le_of_ble_eq_true rfl) dL_law_363 ?_
  exact g_icmp_eq C (tgt := 1040) dL_law_366 (by decide) (fun _ => kk A2 B2 hR2) (fun h => absurd rfl h)
set_option maxHeartbeats 4000000 in
theorem br_shut (C : gC p s m args meth c cL_law 4 rt0 RL (dC, dI) vwCl (tyW cI cZ cS) A0 H0) (hX : LX s H0 A0 b L xs) (hRm : Rm R cells slots) (hI : In5 i L) (hR : Rel A B) (kk : ∀ A2 B2 : MM, Rel A2 B2 → gG p l e R s m args below meth c 4 (dC, dI) vwCl A0 H0 cells slots Q (wC a cI cS A2 ++ wD d cI cZ B2) 1040 (lvL b (a 0) (d 0) i) []) : gG p l e R s m args below meth c 4 (dC, dI) vwCl A0 H0 cells slots Q (wC a cI cS A ++ wD d cI cZ B) 371 (lvL b (a 0) (d 0) i) [] := by
  obtain ⟨r, A2, B2, e1, e2, hR2⟩ := o_shut hR (xs (i + 1).toNatClampNeg)
  refine g_aload_n C dL_law_371 1 rfl rfl ?_
  refine g_rd C hX (k := 1) (K := 1) rfl hI.1 dL_law_372 dL_law_373 dL_law_374 dL_law_375 dL_law_376 ?_
  refine gh_i C (n := 106) (a := a) (g := cC a cI cS A) (g2 := cC a cI cS A2) (As := [.int (xs (i + 1).toNatClampNeg)]) (rest := []) (k_X6_shut (xs (i + 1).toNatClampNeg) A A2 r e1) wl_422 ok_X6_shut rv_X6 (hRm.h (by decide) (by decide)) hRm.f rfl (Nat.le_of_ble_eq_true rfl) dL_law_377 ?_
  refine g_aload_n C dL_law_380 2 rfl rfl ?_
  refine g_rd C hX (k := 1) (K := 1) rfl hI.1 dL_law_381 dL_law_382 dL_law_383 dL_law_384 dL_law_385 ?_
  refine gh_i C (n := 16) (a := d) (g := cD d cI cZ B) (g2 := cD d cI cZ B2) (As := [.int (xs (i + 1).toNatClampNeg)]) (rest := [.int r]) (k_X7_shut (xs (i + 1).toNatClampNeg) B B2 r e2) wl_862 ok_X7_shut rv_X7 (hRm.h (by decide) (by decide)) hRm.f rfl (Nat.le_of_ble_eq_true rfl) dL_law_386 ?_
  exact g_icmp_eq C (tgt := 1040) dL_law_389 (by decide) (fun _ => kk A2 B2 hR2) (fun h => absurd rfl h)
set_option maxHeartbeats 4000000 in
theorem br_walk (C : gC p s m args meth c cL_law 4 rt0 RL (dC, dI) vwCl (tyW cI cZ cS) A0 H0) (hX : LX s H0 A0 b L xs) (hRm : Rm R cells slots) (hI : In5 i L) (hR : Rel A B) (kk : ∀ A2 B2 : MM, Rel A2 B2 → gG p l e R s m args below meth c 4 (dC, dI) vwCl A0 H0 cells slots Q (wC a cI cS A2 ++ wD d cI cZ B2) 1040 (lvL b (a 0) (d 0) i) []) : gG p l e R s m args below meth c 4 (dC, dI) vwCl A0 H0 cells slots Q (wC a cI cS A ++ wD d cI cZ B) 394 (lvL b (a 0) (d 0) i) [] := by
  obtain ⟨r, A2, B2, e1, e2, hR2⟩ := o_walk hR (xs (i + 1).toNatClampNeg) (if (xs (i + 2).toNatClampNeg) = 0 then 0 else 1)
  refine g_aload_n C dL_law_394 1 rfl rfl ?_
  refine g_rd C hX (k := 1) (K := 1) rfl hI.1 dL_law_395 dL_law_396 dL_law_397 dL_law_398 dL_law_399 ?_
  refine g_rd C hX (k := 2) (K := 2) rfl hI.2.1 dL_law_400 dL_law_401 dL_law_402 dL_law_403 dL_law_404 ?_
  refine g_bool C dL_law_405 dL_law_408 dL_law_409 dL_law_412 ?_
  refine gh_i C (n := 106) (a := a) (g := cC a cI cS A) (g2 := cC a cI cS A2) (As := [.int (xs (i + 1).toNatClampNeg), .int (if (xs (i + 2).toNatClampNeg) = 0 then 0 else 1)]) (rest := []) (k_X6_walk (xs (i + 1).toNatClampNeg) (if (xs (i + 2).toNatClampNeg) = 0 then 0 else 1) A A2 r e1) wl_430 ok_X6_walk rv_X6 (hRm.h (by decide) (by decide)) hRm.f rfl (Nat.le_of_ble_eq_true rfl) dL_law_413 ?_
  refine g_aload_n C dL_law_416 2 rfl rfl ?_
  refine g_rd C hX (k := 1) (K := 1) rfl hI.1 dL_law_417 dL_law_418 dL_law_419 dL_law_420 dL_law_421 ?_
  refine g_rd C hX (k := 2) (K := 2) rfl hI.2.1 dL_law_422 dL_law_423 dL_law_424 dL_law_425 dL_law_426 ?_
  refine g_bool C dL_law_427 dL_law_430 dL_law_431 dL_law_434 ?_
  refine gh_i C (n := 16) (a := d) (g := cD d cI cZ B) (g2 := cD d cI cZ B2) (As := [.int (xs (i + 1).toNatClampNeg), .int (if (xs (i + 2).toNatClampNeg) = 0 then 0 else 1)]) (rest := [.int r]) (k_X7_walk (xs (i + 1).toNatClampNeg) (if (xs (i + 2).toNatClampNeg) = 0 then 0 else 1) B B2 r e2) wl_870 ok_X7_walk rv_X7 (hRm.h (by decide) (by decide)) hRm.f rfl (Nat.le_of_ble_eq_true rfl) dL_law_435 ?_
  exact g_icmp_eq C (tgt := 1040) dL_law_438 (by decide) (fun _ => kk A2 B2 hR2) (fun h => absurd rfl h)
set_option maxHeartbeats 4000000 in
theorem br_hour (C : gC p s m args meth c cL_law 4 rt0 RL (dC, dI) vwCl (tyW cI cZ cS) A0 H0) (hX : LX s H0 A0 b L xs) (hRm : Rm R cells slots) (hI : In5 i L) (hR : Rel A B) (kk : ∀ A2 B2 : MM, Rel A2 B2 → gG p l e R s m args below meth c 4 (dC, dI) vwCl A0 H0 cells slots Q (wC a cI cS A2 ++ wD d cI cZ B2) 1040 (lvL b (a 0) (d 0) i) []) : gG p l e R s m args below meth c 4 (dC, dI) vwCl A0 H0 cells slots Q (wC a cI cS A ++ wD d cI cZ B) 443 (lvL b (a 0) (d 0) i) [] := by
  obtain ⟨r, A2, B2, e1, e2, hR2⟩ := o_hour hR 
  refine g_aload_n C dL_law_443 1 rfl rfl ?_
  refine gh_i C (n := 106) (a := a) (g := cC a cI cS A) (g2 := cC a cI cS A2) (As := []) (rest := []) (k_X6_hour A A2 r e1) wl_448 ok_X6_hour rv_X6 (hRm.h (by decide) (by decide)) hRm.f rfl (Nat.le_of_ble_eq_true rfl) dL_law_444 ?_
  refine g_aload_n C dL_law_447 2 rfl rfl ?_
  refine gh_i C (n := 16) (a := d) (g := cD d cI cZ B) (g2 := cD d cI cZ B2) (As := []) (rest := [.int r]) (k_X7_hour B B2 r e2) wl_877 ok_X7_hour rv_X7 (hRm.h (by decide) (by decide)) hRm.f rfl (Nat.le_of_ble_eq_true rfl) dL_law_448 ?_
  exact g_icmp_eq C (tgt := 1040) dL_law_451 (by decide) (fun _ => kk A2 B2 hR2) (fun h => absurd rfl h)
set_option maxHeartbeats 4000000 in
theorem br_undo (C : gC p s m args meth c cL_law 4 rt0 RL (dC, dI) vwCl (tyW cI cZ cS) A0 H0) (hX : LX s H0 A0 b L xs) (hRm : Rm R cells slots) (hI : In5 i L) (hR : Rel A B) (kk : ∀ A2 B2 : MM, Rel A2 B2 → gG p l e R s m args below meth c 4 (dC, dI) vwCl A0 H0 cells slots Q (wC a cI cS A2 ++ wD d cI cZ B2) 1040 (lvL b (a 0) (d 0) i) []) : gG p l e R s m args below meth c 4 (dC, dI) vwCl A0 H0 cells slots Q (wC a cI cS A ++ wD d cI cZ B) 456 (lvL b (a 0) (d 0) i) [] := by
  obtain ⟨r, A2, B2, e1, e2, hR2⟩ := o_undo hR 
  refine g_aload_n C dL_law_456 1 rfl rfl ?_
  refine gh_i C (n := 106) (a := a) (g := cC a cI cS A) (g2 := cC a cI cS A2) (As := []) (rest := []) (k_X6_undo A A2 r e1) wl_466 ok_X6_undo rv_X6 (hRm.h (by decide) (by decide)) hRm.f rfl (Nat.le_of_ble_eq_true rfl) dL_law_457 ?_
  refine g_aload_n C dL_law_460 2 rfl rfl ?_
  refine gh_i C (n := 16) (a := d) (g := cD d cI cZ B) (g2 := cD d cI cZ B2) (As := []) (rest := [.int r]) (k_X7_undo B B2 r e2) wl_889 ok_X7_undo rv_X7 (hRm.h (by decide) (by decide)) hRm.f rfl (Nat.le_of_ble_eq_true rfl) dL_law_461 ?_
  exact g_icmp_eq C (tgt := 1040) dL_law_464 (by decide) (fun _ => kk A2 B2 hR2) (fun h => absurd rfl h)
set_option maxHeartbeats 4000000 in
theorem br_wet (C : gC p s m args meth c cL_law 4 rt0 RL (dC, dI) vwCl (tyW cI cZ cS) A0 H0) (hX : LX s H0 A0 b L xs) (hRm : Rm R cells slots) (hI : In5 i L) (hR : Rel A B) (kk : ∀ A2 B2 : MM, Rel A2 B2 → gG p l e R s m args below meth c 4 (dC, dI) vwCl A0 H0 cells slots Q (wC a cI cS A2 ++ wD d cI cZ B2) 1040 (lvL b (a 0) (d 0) i) []) : gG p l e R s m args below meth c 4 (dC, dI) vwCl A0 H0 cells slots Q (wC a cI cS A ++ wD d cI cZ B) 469 (lvL b (a 0) (d 0) i) [] := by
  obtain ⟨P0, s0, hN, hRX, hPs, hSl, hFe, hJ⟩ := id hR
  obtain ⟨r, A2, B2, e1, e2, hR2⟩ := OK2.tw hR (o_wet hN (xs (i + 1).toNatClampNeg) (xs (i + 2).toNatClampNeg))
  refine g_aload_n C dL_law_469 1 rfl rfl ?_
  refine g_rd C hX (k := 1) (K := 1) rfl hI.1 dL_law_470 dL_law_471 dL_law_472 dL_law_473 dL_law_474 ?_
  refine g_rd C hX (k := 2) (K := 2) rfl hI.2.1 dL_law_475 dL_law_476 dL_law_477 dL_law_478 dL_law_479 ?_
  refine gh_i C (n := 106) (a := a) (g := cC a cI cS A) (g2 := cC a cI cS A2) (As := [.int (xs (i + 1).toNatClampNeg), .int (xs (i + 2).toNatClampNeg)]) (rest := []) (k_X6_wet (xs (i + 1).toNatClampNeg) (xs (i + 2).toNatClampNeg) A A2 r e1) wl_474 ok_X6_wet rv_X6 (hRm.h (by decide) (by decide)) hRm.f rfl (Nat.le_of_ble_eq_true rfl) dL_law_480 ?_
  refine g_aload_n C dL_law_483 2 rfl rfl ?_
  refine g_rd C hX (k := 1) (K := 1) rfl hI.1 dL_law_484 dL_law_485 dL_law_486 dL_law_487 dL_law_488 ?_
  refine g_rd C hX (k := 2) (K := 2) rfl hI.2.1 dL_law_489 dL_law_490 dL_law_491 dL_law_492 dL_law_493 ?_
  refine gh_i C (n := 16) (a := d) (g := cD d cI cZ B) (g2 := cD d cI cZ B2) (As := [.int (xs (i + 1).toNatClampNeg), .int (xs (i + 2).toNatClampNeg)]) (rest := [.int r]) (k_X7_wet (xs (i + 1).toNatClampNeg) (xs (i + 2).toNatClampNeg) B B2 r e2) wl_893 ok_X7_wet rv_X7 (hRm.h (by decide) (by decide)) hRm.f rfl (Nat.le_of_ble_eq_true rfl) dL_law_494 ?_
  exact g_icmp_eq C (tgt := 1040) dL_law_497 (by decide) (fun _ => kk A2 B2 hR2) (fun h => absurd rfl h)
set_option maxHeartbeats 4000000 in
theorem br_needs (C : gC p s m args meth c cL_law 4 rt0 RL (dC, dI) vwCl (tyW cI cZ cS) A0 H0) (hX : LX s H0 A0 b L xs) (hRm : Rm R cells slots) (hI : In5 i L) (hR : Rel A B) (kk : ∀ A2 B2 : MM, Rel A2 B2 → gG p l e R s m args below meth c 4 (dC, dI) vwCl A0 H0 cells slots Q (wC a cI cS A2 ++ wD d cI cZ B2) 1040 (lvL b (a 0) (d 0) i) []) : gG p l e R s m args below meth c 4 (dC, dI) vwCl A0 H0 cells slots Q (wC a cI cS A ++ wD d cI cZ B) 502 (lvL b (a 0) (d 0) i) [] := by
  obtain ⟨P0, s0, hN, hRX, hPs, hSl, hFe, hJ⟩ := id hR
  obtain ⟨r, A2, B2, e1, e2, hR2⟩ := OK2.tw hR (o_needs hN (xs (i + 1).toNatClampNeg) (xs (i + 2).toNatClampNeg))
  refine g_aload_n C dL_law_502 1 rfl rfl ?_
  refine g_rd C hX (k := 1) (K := 1) rfl hI.1 dL_law_503 dL_law_504 dL_law_505 dL_law_506 dL_law_507 ?_
  refine g_rd C hX (k := 2) (K := 2) rfl hI.2.1 dL_law_508 dL_law_509 dL_law_510 dL_law_511 dL_law_512 ?_
  refine gh_i C (n := 106) (a := a) (g := cC a cI cS A) (g2 := cC a cI cS A2) (As := [.int (xs (i + 1).toNatClampNeg), .int (xs (i + 2).toNatClampNeg)]) (rest := []) (k_X6_needs (xs (i + 1).toNatClampNeg) (xs (i + 2).toNatClampNeg) A A2 r e1) wl_484 ok_X6_needs rv_X6 (hRm.h (by decide) (by decide)) hRm.f rfl (Nat.le_of_ble_eq_true rfl) dL_law_513 ?_
  refine g_aload_n C dL_law_516 2 rfl rfl ?_
  refine g_rd C hX (k := 1) (K := 1) rfl hI.1 dL_law_517 dL_law_518 dL_law_519 dL_law_520 dL_law_521 ?_
  refine g_rd C hX (k := 2) (K := 2) rfl hI.2.1 dL_law_522 dL_law_523 dL_law_524 dL_law_525 dL_law_526 ?_
  refine gh_i C (n := 16) (a := d) (g := cD d cI cZ B) (g2 := cD d cI cZ B2) (As := [.int (xs (i + 1).toNatClampNeg), .int (xs (i + 2).toNatClampNeg)]) (rest := [.int r]) (k_X7_needs (xs (i + 1).toNatClampNeg) (xs (i + 2).toNatClampNeg) B B2 r e2) wl_906 ok_X7_needs rv_X7 (hRm.h (by decide) (by decide)) hRm.f rfl (Nat.le_of_ble_eq_true rfl) dL_law_527 ?_
  exact g_icmp_eq C (tgt := 1040) dL_law_530 (by decide) (fun _ => kk A2 B2 hR2) (fun h => absurd rfl h)
set_option maxHeartbeats 4000000 in
theorem br_dry (C : gC p s m args meth c cL_law 4 rt0 RL (dC, dI) vwCl (tyW cI cZ cS) A0 H0) (hX : LX s H0 A0 b L xs) (hRm : Rm R cells slots) (hI : In5 i L) (hR : Rel A B) (kk : ∀ A2 B2 : MM, Rel A2 B2 → gG p l e R s m args below meth c 4 (dC, dI) vwCl A0 H0 cells slots Q (wC a cI cS A2 ++ wD d cI cZ B2) 1040 (lvL b (a 0) (d 0) i) []) : gG p l e R s m args below meth c 4 (dC, dI) vwCl A0 H0 cells slots Q (wC a cI cS A ++ wD d cI cZ B) 535 (lvL b (a 0) (d 0) i) [] := by
  obtain ⟨P0, s0, hN, hRX, hPs, hSl, hFe, hJ⟩ := id hR
  obtain ⟨r, A2, B2, e1, e2, hR2⟩ := OK2.tw hR (o_dry hN (xs (i + 1).toNatClampNeg))
  refine g_aload_n C dL_law_535 1 rfl rfl ?_
  refine g_rd C hX (k := 1) (K := 1) rfl hI.1 dL_law_536 dL_law_537 dL_law_538 dL_law_539 dL_law_540 ?_
  refine gh_i C (n := 106) (a := a) (g := cC a cI cS A) (g2 := cC a cI cS A2) (As := [.int (xs (i + 1).toNatClampNeg)]) (rest := []) (k_X6_dry (xs (i + 1).toNatClampNeg) A A2 r e1) wl_491 ok_X6_dry rv_X6 (hRm.h (by decide) (by decide)) hRm.f rfl (Nat.le_of_ble_eq_true rfl) dL_law_541 ?_
  refine g_aload_n C dL_law_544 2 rfl rfl ?_
  refine g_rd C hX (k := 1) (K := 1) rfl hI.1 dL_law_545 dL_law_546 dL_law_547 dL_law_548 dL_law_549 ?_
  refine gh_i C (n := 16) (a := d) (g := cD d cI cZ B) (g2 := cD d cI cZ B2) (As := [.int (xs (i + 1).toNatClampNeg)]) (rest := [.int r]) (k_X7_dry (xs (i + 1).toNatClampNeg) B B2 r e2) wl_910 ok_X7_dry rv_X7 (hRm.h (by decide) (by decide)) hRm.f rfl (Nat.le_of_ble_eq_true rfl) dL_law_550 ?_
  exact g_icmp_eq C (tgt := 1040) dL_law_553 (by decide) (fun _ => kk A2 B2 hR2) (fun h => absurd rfl h)
set_option maxHeartbeats 4000000 in
theorem br_asked (C : gC p s m args meth c cL_law 4 rt0 RL (dC, dI) vwCl (tyW cI cZ cS) A0 H0) (hX : LX s H0 A0 b L xs) (hRm : Rm R cells slots) (hI : In5 i L) (hR : Rel A B) (kk : ∀ A2 B2 : MM, Rel A2 B2 → gG p l e R s m args below meth c 4 (dC, dI) vwCl A0 H0 cells slots Q (wC a cI cS A2 ++ wD d cI cZ B2) 1040 (lvL b (a 0) (d 0) i) []) : gG p l e R s m args below meth c 4 (dC, dI) vwCl A0 H0 cells slots Q (wC a cI cS A ++ wD d cI cZ B) 558 (lvL b (a 0) (d 0) i) [] := by
  obtain ⟨P0, s0, hN, hRX, hPs, hSl, hFe, hJ⟩ := id hR
  obtain ⟨r, A2, B2, e1, e2, hR2⟩ := OK2.tw hR (o_asked hN (xs (i + 1).toNatClampNeg))
  refine g_aload_n C dL_law_558 1 rfl rfl ?_
  refine g_rd C hX (k := 1) (K := 1) rfl hI.1 dL_law_559 dL_law_560 dL_law_561 dL_law_562 dL_law_563 ?_
  refine gh_i C (n := 106) (a := a) (g := cC a cI cS A) (g2 := cC a cI cS A2) (As := [.int (xs (i + 1).toNatClampNeg)]) (rest := []) (k_X6_asked (xs (i + 1).toNatClampNeg) A A2 r e1) wl_496 ok_X6_asked rv_X6 (hRm.h (by decide) (by decide)) hRm.f rfl (Nat.le_of_ble_eq_true rfl) dL_law_564 ?_
  refine g_aload_n C dL_law_567 2 rfl rfl ?_
  refine g_rd C hX (k := 1) (K := 1) rfl hI.1 dL_law_568 dL_law_569 dL_law_570 dL_law_571 dL_law_572 ?_
  refine gh_i C (n := 16) (a := d) (g := cD d cI cZ B) (g2 := cD d cI cZ B2) (As := [.int (xs (i + 1).toNatClampNeg)]) (rest := [.int r]) (k_X7_asked (xs (i + 1).toNatClampNeg) B B2 r e2) wl_914 ok_X7_asked rv_X7 (hRm.h (by decide) (by decide)) hRm.f rfl (Nat.le_of_ble_eq_true rfl) dL_law_573 ?_
  exact g_icmp_eq C (tgt := 1040) dL_law_576 (by decide) (fun _ => kk A2 B2 hR2) (fun h => absurd rfl h)
set_option maxHeartbeats 4000000 in
theorem br_sent (C : gC p s m args meth c cL_law 4 rt0 RL (dC, dI) vwCl (tyW cI cZ cS) A0 H0) (hX : LX s H0 A0 b L xs) (hRm : Rm R cells slots) (hI : In5 i L) (hR : Rel A B) (kk : ∀ A2 B2 : MM, Rel A2 B2 → gG p l e R s m args below meth c 4 (dC, dI) vwCl A0 H0 cells slots Q (wC a cI cS A2 ++ wD d cI cZ B2) 1040 (lvL b (a 0) (d 0) i) []) : gG p l e R s m args below meth c 4 (dC, dI) vwCl A0 H0 cells slots Q (wC a cI cS A ++ wD d cI cZ B) 581 (lvL b (a 0) (d 0) i) [] := by
  obtain ⟨P0, s0, hN, hRX, hPs, hSl, hFe, hJ⟩ := id hR
  obtain ⟨r, A2, B2, e1, e2, hR2⟩ := OK2.tw hR (o_sent hN (xs (i + 1).toNatClampNeg) (xs (i + 2).toNatClampNeg))
  refine g_aload_n C dL_law_581 1 rfl rfl ?_
  refine g_rd C hX (k := 1) (K := 1) rfl hI.1 dL_law_582 dL_law_583 dL_law_584 dL_law_585 dL_law_586 ?_
  refine g_rd C hX (k := 2) (K := 2) rfl hI.2.1 dL_law_587 dL_law_588 dL_law_589 dL_law_590 dL_law_591 ?_
  refine gh_i C (n := 106) (a := a) (g := cC a cI cS A) (g2 := cC a cI cS A2) (As := [.int (xs (i + 1).toNatClampNeg), .int (xs (i + 2).toNatClampNeg)]) (rest := []) (k_X6_sent (xs (i + 1).toNatClampNeg) (xs (i + 2).toNatClampNeg) A A2 r e1) wl_529 ok_X6_sent rv_X6 (hRm.h (by decide) (by decide)) hRm.f rfl (Nat.le_of_ble_eq_true rfl) dL_law_592 ?_
  refine g_aload_n C dL_law_595 2 rfl rfl ?_
  refine g_rd C hX (k := 1) (K := 1) rfl hI.1 dL_law_596 dL_law_597 dL_law_598 dL_law_599 dL_law_600 ?_
  refine g_rd C hX (k := 2) (K := 2) rfl hI.2.1 dL_law_601 dL_law_602 dL_law_603 dL_law_604 dL_law_605 ?_
  refine gh_i C (n := 16) (a := d) (g := cD d cI cZ B) (g2 := cD d cI cZ B2) (As := [.int (xs (i + 1).toNatClampNeg), .int (xs (i + 2).toNatClampNeg)]) (rest := [.int r]) (k_X7_sent (xs (i + 1).toNatClampNeg) (xs (i + 2).toNatClampNeg) B B2 r e2) wl_929 ok_X7_sent rv_X7 (hRm.h (by decide) (by decide)) hRm.f rfl (Nat.le_of_ble_eq_true rfl) dL_law_606 ?_
  exact g_icmp_eq C (tgt := 1040) dL_law_609 (by decide) (fun _ => kk A2 B2 hR2) (fun h => absurd rfl h)
set_option maxHeartbeats 4000000 in
theorem br_judge (C : gC p s m args meth c cL_law 4 rt0 RL (dC, dI) vwCl (tyW cI cZ cS) A0 H0) (hX : LX s H0 A0 b L xs) (hRm : Rm R cells slots) (hI : In5 i L) (hR : Rel A B) (kk : ∀ A2 B2 : MM, Rel A2 B2 → gG p l e R s m args below meth c 4 (dC, dI) vwCl A0 H0 cells slots Q (wC a cI cS A2 ++ wD d cI cZ B2) 1040 (lvL b (a 0) (d 0) i) []) : gG p l e R s m args below meth c 4 (dC, dI) vwCl A0 H0 cells slots Q (wC a cI cS A ++ wD d cI cZ B) 614 (lvL b (a 0) (d 0) i) [] := by
  obtain ⟨P0, s0, hN, hRX, hPs, hSl, hFe, hJ⟩ := id hR
  obtain ⟨r, A2, B2, e1, e2, hR2⟩ := OK2.tw hR (o_judge hN (xs (i + 1).toNatClampNeg) (jL (xs (i + 2).toNatClampNeg) (xs (i + 3).toNatClampNeg)))
  refine g_aload_n C dL_law_614 1 rfl rfl ?_
  refine g_rd C hX (k := 1) (K := 1) rfl hI.1 dL_law_615 dL_law_616 dL_law_617 dL_law_618 dL_law_619 ?_
  refine g_rd2 C hX (k := 2) (K := 2) (k2 := 3) (K2 := 3) rfl rfl hI.2.1 hI.2.2.1 wl_1016 dL_law_620 dL_law_621 dL_law_622 dL_law_623 dL_law_624 dL_law_625 dL_law_626 dL_law_628 dL_law_629 dL_law_630 dL_law_631 dL_law_632 dL_law_633 dL_law_634 dL_law_635 dL_law_638 dL_law_639 ?_
  refine gh_i C (n := 106) (a := a) (g := cC a cI cS A) (g2 := cC a cI cS A2) (As := [.int (xs (i + 1).toNatClampNeg), .long (jL (xs (i + 2).toNatClampNeg) (xs (i + 3).toNatClampNeg))]) (rest := []) (k_X6_judge (xs (i + 1).toNatClampNeg) (jL (xs (i + 2).toNatClampNeg) (xs (i + 3).toNatClampNeg)) A A2 r e1) wl_538 ok_X6_judge rv_X6 (hRm.h (by decide) (by decide)) hRm.f rfl (Nat.le_of_ble_eq_true rfl) dL_law_640 ?_
  refine g_aload_n C dL_law_643 2 rfl rfl ?_
  refine g_rd C hX (k := 1) (K := 1) rfl hI.1 dL_law_644 dL_law_645 dL_law_646 dL_law_647 dL_law_648 ?_
  refine g_rd2 C hX (k := 2) (K := 2) (k2 := 3) (K2 := 3) rfl rfl hI.2.1 hI.2.2.1 wl_1016 dL_law_649 dL_law_650 dL_law_651 dL_law_652 dL_law_653 dL_law_654 dL_law_655 dL_law_657 dL_law_658 dL_law_659 dL_law_660 dL_law_661 dL_law_662 dL_law_663 dL_law_664 dL_law_667 dL_law_668 ?_
  refine gh_i C (n := 16) (a := d) (g := cD d cI cZ B) (g2 := cD d cI cZ B2) (As := [.int (xs (i + 1).toNatClampNeg), .long (jL (xs (i + 2).toNatClampNeg) (xs (i + 3).toNatClampNeg))]) (rest := [.int r]) (k_X7_judge (xs (i + 1).toNatClampNeg) (jL (xs (i + 2).toNatClampNeg) (xs (i + 3).toNatClampNeg)) B B2 r e2) wl_933 ok_X7_judge rv_X7 (hRm.h (by decide) (by decide)) hRm.f rfl (Nat.le_of_ble_eq_true rfl) dL_law_669 ?_
  exact g_icmp_eq C (tgt := 1040) dL_law_672 (by decide) (fun _ => kk A2 B2 hR2) (fun h => absurd rfl h)
set_option maxHeartbeats 4000000 in
theorem br_share (C : gC p s m args meth c cL_law 4 rt0 RL (dC, dI) vwCl (tyW cI cZ cS) A0 H0) (hX : LX s H0 A0 b L xs) (hRm : Rm R cells slots) (hI : In5 i L) (hR : Rel A B) (kk : ∀ A2 B2 : MM, Rel A2 B2 → gG p l e R s m args below meth c 4 (dC, dI) vwCl A0 H0 cells slots Q (wC a cI cS A2 ++ wD d cI cZ B2) 1040 (lvL b (a 0) (d 0) i) []) : gG p l e R s m args below meth c 4 (dC, dI) vwCl A0 H0 cells slots Q (wC a cI cS A ++ wD d cI cZ B) 677 (lvL b (a 0) (d 0) i) [] := by
  obtain ⟨P0, s0, hN, hRX, hPs, hSl, hFe, hJ⟩ := id hR
  obtain ⟨r, A2, B2, e1, e2, hR2⟩ := OK2.tw hR (o_share hN (xs (i + 1).toNatClampNeg) (if (xs (i + 2).toNatClampNeg) = 0 then 0 else 1))
  refine g_aload_n C dL_law_677 1 rfl rfl ?_
  refine g_rd C hX (k := 1) (K := 1) rfl hI.1 dL_law_678 dL_law_679 dL_law_680 dL_law_681 dL_law_682 ?_
  refine g_rd C hX (k := 2) (K := 2) rfl hI.2.1 dL_law_683 dL_law_684 dL_law_685 dL_law_686 dL_law_687 ?_
  refine g_bool C dL_law_688 dL_law_691 dL_law_692 dL_law_695 ?_
  refine gh_i C (n := 106) (a := a) (g := cC a cI cS A) (g2 := cC a cI cS A2) (As := [.int (xs (i + 1).toNatClampNeg), .int (if (xs (i + 2).toNatClampNeg) = 0 then 0 else 1)]) (rest := []) (k_X6_share (xs (i + 1).toNatClampNeg) (if (xs (i + 2).toNatClampNeg) = 0 then 0 else 1) A A2 r e1) wl_550 ok_X6_share rv_X6 (hRm.h (by decide) (by decide)) hRm.f rfl (Nat.le_of_ble_eq_true rfl) dL_law_696 ?_
  refine g_aload_n C dL_law_699 2 rfl rfl ?_
  refine g_rd C hX (k := 1) (K := 1) rfl hI.1 dL_law_700 dL_law_701 dL_law_702 dL_law_703 dL_law_704 ?_
  refine g_rd C hX (k := 2) (K := 2) rfl hI.2.1 dL_law_705 dL_law_706 dL_law_707 dL_law_708 dL_law_709 ?_
  refine g_bool C dL_law_710 dL_law_713 dL_law_714 dL_law_717 ?_
  refine gh_i C (n := 16) (a := d) (g := cD d cI cZ B) (g2 := cD d cI cZ B2) (As := [.int (xs (i + 1).toNatClampNeg), .int (if (xs (i + 2).toNatClampNeg) = 0 then 0 else 1)]) (rest := [.int r]) (k_X7_share (xs (i + 1).toNatClampNeg) (if (xs (i + 2).toNatClampNeg) = 0 then 0 else 1) B B2 r e2) wl_946 ok_X7_share rv_X7 (hRm.h (by decide) (by decide)) hRm.f rfl (Nat.le_of_ble_eq_true rfl) dL_law_718 ?_
  exact g_icmp_eq C (tgt := 1040) dL_law_721 (by decide) (fun _ => kk A2 B2 hR2) (fun h => absurd rfl h)
set_option maxHeartbeats 4000000 in
theorem br_feel (C : gC p s m args meth c cL_law 4 rt0 RL (dC, dI) vwCl (tyW cI cZ cS) A0 H0) (hX : LX s H0 A0 b L xs) (hRm : Rm R cells slots) (hI : In5 i L) (hR : Rel A B) (kk : ∀ A2 B2 : MM, Rel A2 B2 → gG p l e R s m args below meth c 4 (dC, dI) vwCl A0 H0 cells slots Q (wC a cI cS A2 ++ wD d cI cZ B2) 1040 (lvL b (a 0) (d 0) i) []) : gG p l e R s m args below meth c 4 (dC, dI) vwCl A0 H0 cells slots Q (wC a cI cS A ++ wD d cI cZ B) 726 (lvL b (a 0) (d 0) i) [] := by
  obtain ⟨r, A2, B2, e1, e2, hR2⟩ := o_feel hR (xs (i + 1).toNatClampNeg) (xs (i + 2).toNatClampNeg) (xs (i + 3).toNatClampNeg)
  refine g_aload_n C dL_law_726 1 rfl rfl ?_
  refine g_rd C hX (k := 1) (K := 1) rfl hI.1 dL_law_727 dL_law_728 dL_law_729 dL_law_730 dL_law_731 ?_
  refine g_rd C hX (k := 2) (K := 2) rfl hI.2.1 dL_law_732 dL_law_733 dL_law_734 dL_law_735 dL_law_736 ?_
  refine g_rd C hX (k := 3) (K := 3) rfl hI.2.2.1 dL_law_737 dL_law_738 dL_law_739 dL_law_740 dL_law_741 ?_
  refine gh_i C (n := 106) (a := a) (g := cC a cI cS A) (g2 := cC a cI cS A2) (As := [.int (xs (i + 1).toNatClampNeg), .int (xs (i + 2).toNatClampNeg), .int (xs (i + 3).toNatClampNeg)]) (rest := []) (k_X6_feel (xs (i + 1).toNatClampNeg) (xs (i + 2).toNatClampNeg) (xs (i + 3).toNatClampNeg) A A2 r e1) wl_574 ok_X6_feel rv_X6 (hRm.h (by decide) (by decide)) hRm.f rfl (Nat.le_of_ble_eq_true rfl) dL_law_742 ?_
  refine g_aload_n C dL_law_745 2 rfl rfl ?_
  refine g_rd C hX (k := 1) (K := 1) rfl hI.1 dL_law_746 dL_law_747 dL_law_748 dL_law_749 dL_law_750 ?_
  refine g_rd C hX (k := 2) (K := 2) rfl hI.2.1 dL_law_751 dL_law_752 dL_law_753 dL_law_754 dL_law_755 ?_
  refine g_rd C hX (k := 3) (K := 3) rfl hI.2.2.1 dL_law_756 dL_law_757 dL_law_758 dL_law_759 dL_law_760 ?_
  refine gh_i C (n := 16) (a := d) (g := cD d cI cZ B) (g2 := cD d cI cZ B2) (As := [.int (xs (i + 1).toNatClampNeg), .int (xs (i + 2).toNatClampNeg), .int (xs (i + 3).toNatClampNeg)]) (rest := [.int r]) (k_X7_feel (xs (i + 1).toNatClampNeg) (xs (i + 2).toNatClampNeg) (xs (i + 3).toNatClampNeg) B B2 r e2) wl_959 ok_X7_feel rv_X7 (hRm.h (by decide) (by decide)) hRm.f rfl (Nat.le_of_ble_eq_true rfl) dL_law_761 ?_
  exact g_icmp_eq C (tgt := 1040) dL_law_764 (by decide) (fun _ => kk A2 B2 hR2) (fun h => absurd rfl h)
set_option maxHeartbeats 4000000 in
theorem br_unfeel (C : gC p s m args meth c cL_law 4 rt0 RL (dC, dI) vwCl (tyW cI cZ cS) A0 H0) (hX : LX s H0 A0 b L xs) (hRm : Rm R cells slots) (hI : In5 i L) (hR : Rel A B) (kk : ∀ A2 B2 : MM, Rel A2 B2 → gG p l e R s m args below meth c 4 (dC, dI) vwCl A0 H0 cells slots Q (wC a cI cS A2 ++ wD d cI cZ B2) 1040 (lvL b (a 0) (d 0) i) []) : gG p l e R s m args below meth c 4 (dC, dI) vwCl A0 H0 cells slots Q (wC a cI cS A ++ wD d cI cZ B) 769 (lvL b (a 0) (d 0) i) [] := by
  obtain ⟨r, A2, B2, e1, e2, hR2⟩ := o_unfeel hR 
  refine g_aload_n C dL_law_769 1 rfl rfl ?_
  refine gh_i C (n := 106) (a := a) (g := cC a cI cS A) (g2 := cC a cI cS A2) (As := []) (rest := []) (k_X6_unfeel A A2 r e1) wl_583 ok_X6_unfeel rv_X6 (hRm.h (by decide) (by decide)) hRm.f rfl (Nat.le_of_ble_eq_true rfl) dL_law_770 ?_
  refine g_aload_n C dL_law_773 2 rfl rfl ?_
  refine gh_i C (n := 16) (a := d) (g := cD d cI cZ B) (g2 := cD d cI cZ B2) (As := []) (rest := [.int r]) (k_X7_unfeel B B2 r e2) wl_964 ok_X7_unfeel rv_X7 (hRm.h (by decide) (by decide)) hRm.f rfl (Nat.le_of_ble_eq_true rfl) dL_law_774 ?_
  exact g_icmp_eq C (tgt := 1040) dL_law_777 (by decide) (fun _ => kk A2 B2 hR2) (fun h => absurd rfl h)
set_option maxHeartbeats 4000000 in
theorem br_may (C : gC p s m args meth c cL_law 4 rt0 RL (dC, dI) vwCl (tyW cI cZ cS) A0 H0) (hX : LX s H0 A0 b L xs) (hRm : Rm R cells slots) (hI : In5 i L) (hR : Rel A B) (kk : ∀ A2 B2 : MM, Rel A2 B2 → gG p l e R s m args below meth c 4 (dC, dI) vwCl A0 H0 cells slots Q (wC a cI cS A2 ++ wD d cI cZ B2) 1040 (lvL b (a 0) (d 0) i) []) : gG p l e R s m args below meth c 4 (dC, dI) vwCl A0 H0 cells slots Q (wC a cI cS A ++ wD d cI cZ B) 782 (lvL b (a 0) (d 0) i) [] := by
  obtain ⟨P0, s0, hN, hRX, hPs, hSl, hFe, hJ⟩ := id hR
  obtain ⟨r, A2, B2, e1, e2, hR2⟩ := OK2.tw hR (o_may hFe (xs (i + 1).toNatClampNeg))
  refine g_aload_n C dL_law_782 1 rfl rfl ?_
  refine g_rd C hX (k := 1) (K := 1) rfl hI.1 dL_law_783 dL_law_784 dL_law_785 dL_law_786 dL_law_787 ?_
  refine gh_i C (n := 106) (a := a) (g := cC a cI cS A) (g2 := cC a cI cS A2) (As := [.int (xs (i + 1).toNatClampNeg)]) (rest := []) (k_X6_may (xs (i + 1).toNatClampNeg) A A2 r e1) wl_591 ok_X6_may rv_X6 (hRm.h (by decide) (by decide)) hRm.f rfl (Nat.le_of_ble_eq_true rfl) dL_law_788 ?_
  refine g_aload_n C dL_law_791 2 rfl rfl ?_
  refine g_rd C hX (k := 1) (K := 1) rfl hI.1 dL_law_792 dL_law_793 dL_law_794 dL_law_795 dL_law_796 ?_
  refine gh_i C (n := 16) (a := d) (g := cD d cI cZ B) (g2 := cD d cI cZ B2) (As := [.int (xs (i + 1).toNatClampNeg)]) (rest := [.int r]) (k_X7_may (xs (i + 1).toNatClampNeg) B B2 r e2) wl_968 ok_X7_may rv_X7 (hRm.h (by decide) (by decide)) hRm.f rfl (Nat.le_of_ble_eq_true rfl) dL_law_797 ?_
  exact g_icmp_eq C (tgt := 1040) dL_law_800 (by decide) (fun _ => kk A2 B2 hR2) (fun h => absurd rfl h)
set_option maxHeartbeats 4000000 in
theorem br_rests (C : gC p s m args meth c cL_law 4 rt0 RL (dC, dI) vwCl (tyW cI cZ cS) A0 H0) (hX : LX s H0 A0 b L xs) (hRm : Rm R cells slots) (hI : In5 i L) (hR : Rel A B) (kk : ∀ A2 B2 : MM, Rel A2 B2 → gG p l e R s m args below meth c 4 (dC, dI) vwCl A0 H0 cells slots Q (wC a cI cS A2 ++ wD d cI cZ B2) 1040 (lvL b (a 0) (d 0) i) []) : gG p l e R s m args below meth c 4 (dC, dI) vwCl A0 H0 cells slots Q (wC a cI cS A ++ wD d cI cZ B) 805 (lvL b (a 0) (d 0) i) [] := by
  obtain ⟨P0, s0, hN, hRX, hPs, hSl, hFe, hJ⟩ := id hR
  obtain ⟨r, A2, B2, e1, e2, hR2⟩ := OK2.tw hR (o_rests hN (xs (i + 1).toNatClampNeg) (xs (i + 2).toNatClampNeg) (xs (i + 3).toNatClampNeg))
  refine g_aload_n C dL_law_805 1 rfl rfl ?_
  refine g_rd C hX (k := 1) (K := 1) rfl hI.1 dL_law_806 dL_law_807 dL_law_808 dL_law_809 dL_law_810 ?_
  refine g_rd C hX (k := 2) (K := 2) rfl hI.2.1 dL_law_811 dL_law_812 dL_law_813 dL_law_814 dL_law_815 ?_
  refine g_rd C hX (k := 3) (K := 3) rfl hI.2.2.1 dL_law_816 dL_law_817 dL_law_818 dL_law_819 dL_law_820 ?_
  refine gh_i C (n := 106) (a := a) (g := cC a cI cS A) (g2 := cC a cI cS A2) (As := [.int (xs (i + 1).toNatClampNeg), .int (xs (i + 2).toNatClampNeg), .int (xs (i + 3).toNatClampNeg)]) (rest := []) (k_X6_rests (xs (i + 1).toNatClampNeg) (xs (i + 2).toNatClampNeg) (xs (i + 3).toNatClampNeg) A A2 r e1) wl_606 ok_X6_rests rv_X6 (hRm.h (by decide) (by decide)) hRm.f rfl (Nat.le_of_ble_eq_true rfl) dL_law_821 ?_
  refine g_aload_n C dL_law_824 2 rfl rfl ?_
  refine g_rd C hX (k := 1) (K := 1) rfl hI.1 dL_law_825 dL_law_826 dL_law_827 dL_law_828 dL_law_829 ?_
  refine g_rd C hX (k := 2) (K := 2) rfl hI.2.1 dL_law_830 dL_law_831 dL_law_832 dL_law_833 dL_law_834 ?_
  refine g_rd C hX (k := 3) (K := 3) rfl hI.2.2.1 dL_law_835 dL_law_836 dL_law_837 dL_law_838 dL_law_839 ?_
  refine gh_i C (n := 16) (a := d) (g := cD d cI cZ B) (g2 := cD d cI cZ B2) (As := [.int (xs (i + 1).toNatClampNeg), .int (xs (i + 2).toNatClampNeg), .int (xs (i + 3).toNatClampNeg)]) (rest := [.int r]) (k_X7_rests (xs (i + 1).toNatClampNeg) (xs (i + 2).toNatClampNeg) (xs (i + 3).toNatClampNeg) B B2 r e2) wl_980 ok_X7_rests rv_X7 (hRm.h (by decide) (by decide)) hRm.f rfl (Nat.le_of_ble_eq_true rfl) dL_law_840 ?_
  exact g_icmp_eq C (tgt := 1040) dL_law_843 (by decide) (fun _ => kk A2 B2 hR2) (fun h => absurd rfl h)
set_option maxHeartbeats 4000000 in
theorem br_sudden (C : gC p s m args meth c cL_law 4 rt0 RL (dC, dI) vwCl (tyW cI cZ cS) A0 H0) (hX : LX s H0 A0 b L xs) (hRm : Rm R cells slots) (hI : In5 i L) (hR : Rel A B) (kk : ∀ A2 B2 : MM, Rel A2 B2 → gG p l e R s m args below meth c 4 (dC, dI) vwCl A0 H0 cells slots Q (wC a cI cS A2 ++ wD d cI cZ B2) 1040 (lvL b (a 0) (d 0) i) []) : gG p l e R s m args below meth c 4 (dC, dI) vwCl A0 H0 cells slots Q (wC a cI cS A ++ wD d cI cZ B) 848 (lvL b (a 0) (d 0) i) [] := by
  obtain ⟨P0, s0, hN, hRX, hPs, hSl, hFe, hJ⟩ := id hR
  obtain ⟨r, A2, B2, e1, e2, hR2⟩ := OK2.tw hR (o_sudden hN (xs (i + 1).toNatClampNeg) (xs (i + 2).toNatClampNeg) (xs (i + 3).toNatClampNeg) (if (xs (i + 4).toNatClampNeg) = 0 then 0 else 1))
  refine g_aload_n C dL_law_848 1 rfl rfl ?_
  refine g_rd C hX (k := 1) (K := 1) rfl hI.1 dL_law_849 dL_law_850 dL_law_851 dL_law_852 dL_law_853 ?_
  refine g_rd C hX (k := 2) (K := 2) rfl hI.2.1 dL_law_854 dL_law_855 dL_law_856 dL_law_857 dL_law_858 ?_
  refine g_rd C hX (k := 3) (K := 3) rfl hI.2.2.1 dL_law_859 dL_law_860 dL_law_861 dL_law_862 dL_law_863 ?_
  refine g_rd C hX (k := 4) (K := 4) rfl hI.2.2.2 dL_law_864 dL_law_865 dL_law_866 dL_law_867 dL_law_868 ?_
  refine g_bool C dL_law_869 dL_law_872 dL_law_873 dL_law_876 ?_
  refine gh_i C (n := 106) (a := a) (g := cC a cI cS A) (g2 := cC a cI cS A2) (As := [.int (xs (i + 1).toNatClampNeg), .int (xs (i + 2).toNatClampNeg), .int (xs (i + 3).toNatClampNeg), .int (if (xs (i + 4).toNatClampNeg) = 0 then 0 else 1)]) (rest := []) (k_X6_sudden (xs (i + 1).toNatClampNeg) (xs (i + 2).toNatClampNeg) (xs (i + 3).toNatClampNeg) (if (xs (i + 4).toNatClampNeg) = 0 then 0 else 1) A A2 r e1) wl_618 ok_X6_sudden rv_X6 (hRm.h (by decide) (by decide)) hRm.f rfl (Nat.le_of_ble_eq_true rfl) dL_law_877 ?_
  refine g_aload_n C dL_law_880 2 rfl rfl ?_
  refine g_rd C hX (k := 1) (K := 1) rfl hI.1 dL_law_881 dL_law_882 dL_law_883 dL_law_884 dL_law_885 ?_
  refine g_rd C hX (k := 2) (K := 2) rfl hI.2.1 dL_law_886 dL_law_887 dL_law_888 dL_law_889 dL_law_890 ?_
  refine g_rd C hX (k := 3) (K := 3) rfl hI.2.2.1 dL_law_891 dL_law_892 dL_law_893 dL_law_894 dL_law_895 ?_
  refine g_rd C hX (k := 4) (K := 4) rfl hI.2.2.2 dL_law_896 dL_law_897 dL_law_898 dL_law_899 dL_law_900 ?_
  refine g_bool C dL_law_901 dL_law_904 dL_law_905 dL_law_908 ?_
  refine gh_i C (n := 16) (a := d) (g := cD d cI cZ B) (g2 := cD d cI cZ B2) (As := [.int (xs (i + 1).toNatClampNeg), .int (xs (i + 2).toNatClampNeg), .int (xs (i + 3).toNatClampNeg), .int (if (xs (i + 4).toNatClampNeg) = 0 then 0 else 1)]) (rest := [.int r]) (k_X7_sudden (xs (i + 1).toNatClampNeg) (xs (i + 2).toNatClampNeg) (xs (i + 3).toNatClampNeg) (if (xs (i + 4).toNatClampNeg) = 0 then 0 else 1) B B2 r e2) wl_988 ok_X7_sudden rv_X7 (hRm.h (by decide) (by decide)) hRm.f rfl (Nat.le_of_ble_eq_true rfl) dL_law_909 ?_
  exact g_icmp_eq C (tgt := 1040) dL_law_912 (by decide) (fun _ => kk A2 B2 hR2) (fun h => absurd rfl h)
set_option maxHeartbeats 4000000 in
theorem br_seed (C : gC p s m args meth c cL_law 4 rt0 RL (dC, dI) vwCl (tyW cI cZ cS) A0 H0) (hX : LX s H0 A0 b L xs) (hRm : Rm R cells slots) (hI : In5 i L) (hR : Rel A B) (kk : ∀ A2 B2 : MM, Rel A2 B2 → gG p l e R s m args below meth c 4 (dC, dI) vwCl A0 H0 cells slots Q (wC a cI cS A2 ++ wD d cI cZ B2) 1040 (lvL b (a 0) (d 0) i) []) : gG p l e R s m args below meth c 4 (dC, dI) vwCl A0 H0 cells slots Q (wC a cI cS A ++ wD d cI cZ B) 917 (lvL b (a 0) (d 0) i) [] := by
  obtain ⟨r, A2, B2, e1, e2, hR2⟩ := o_seed hR (jL (xs (i + 1).toNatClampNeg) (xs (i + 2).toNatClampNeg))
  refine g_aload_n C dL_law_917 1 rfl rfl ?_
  refine g_rd2 C hX (k := 1) (K := 1) (k2 := 2) (K2 := 2) rfl rfl hI.1 hI.2.1 wl_1016 dL_law_918 dL_law_919 dL_law_920 dL_law_921 dL_law_922 dL_law_923 dL_law_924 dL_law_926 dL_law_927 dL_law_928 dL_law_929 dL_law_930 dL_law_931 dL_law_932 dL_law_933 dL_law_936 dL_law_937 ?_
  refine gh_l C (n := 106) (a := a) (g := cC a cI cS A) (g2 := cC a cI cS A2) (As := [.long (jL (xs (i + 1).toNatClampNeg) (xs (i + 2).toNatClampNeg))]) (rest := []) (k_X6_seed (jL (xs (i + 1).toNatClampNeg) (xs (i + 2).toNatClampNeg)) A A2 r e1) wl_625 ok_X6_seed rv_X6 (hRm.h (by decide) (by decide)) hRm.f rfl (Nat.le_of_ble_eq_true rfl) dL_law_938 ?_
  refine g_aload_n C dL_law_941 2 rfl rfl ?_
  refine g_rd2 C hX (k := 1) (K := 1) (k2 := 2) (K2 := 2) rfl rfl hI.1 hI.2.1 wl_1016 dL_law_942 dL_law_943 dL_law_944 dL_law_945 dL_law_946 dL_law_947 dL_law_948 dL_law_950 dL_law_951 dL_law_952 dL_law_953 dL_law_954 dL_law_955 dL_law_956 dL_law_957 dL_law_960 dL_law_961 ?_
  refine gh_l C (n := 16) (a := d) (g := cD d cI cZ B) (g2 := cD d cI cZ B2) (As := [.long (jL (xs (i + 1).toNatClampNeg) (xs (i + 2).toNatClampNeg))]) (rest := [.long r]) (k_X7_seed (jL (xs (i + 1).toNatClampNeg) (xs (i + 2).toNatClampNeg)) B B2 r e2) wl_996 ok_X7_seed rv_X7 (hRm.h (by decide) (by decide)) hRm.f rfl (Nat.le_of_ble_eq_true rfl) dL_law_962 ?_
  refine g_lcmp C dL_law_965 ?_
  exact g_if_eq C (tgt := 1040) dL_law_966 (by decide) (fun _ => kk A2 B2 hR2) (fun h => absurd ((lg_cmp_eq r r).mpr rfl) h)
set_option maxHeartbeats 4000000 in
theorem br_weeks (C : gC p s m args meth c cL_law 4 rt0 RL (dC, dI) vwCl (tyW cI cZ cS) A0 H0) (hX : LX s H0 A0 b L xs) (hRm : Rm R cells slots) (hI : In5 i L) (hR : Rel A B) (kk : ∀ A2 B2 : MM, Rel A2 B2 → gG p l e R s m args below meth c 4 (dC, dI) vwCl A0 H0 cells slots Q (wC a cI cS A2 ++ wD d cI cZ B2) 1040 (lvL b (a 0) (d 0) i) []) : gG p l e R s m args below meth c 4 (dC, dI) vwCl A0 H0 cells slots Q (wC a cI cS A ++ wD d cI cZ B) 971 (lvL b (a 0) (d 0) i) [] := by
  obtain ⟨r, A2, B2, e1, e2, hR2⟩ := o_weeks hR (xs (i + 1).toNatClampNeg)
  refine g_aload_n C dL_law_971 1 rfl rfl ?_
  refine g_rd C hX (k := 1) (K := 1) rfl hI.1 dL_law_972 dL_law_973 dL_law_974 dL_law_975 dL_law_976 ?_
  refine gh_i C (n := 106) (a := a) (g := cC a cI cS A) (g2 := cC a cI cS A2) (As := [.int (xs (i + 1).toNatClampNeg)]) (rest := []) (k_X6_weeks (xs (i + 1).toNatClampNeg) A A2 r e1) wl_629 ok_X6_weeks rv_X6 (hRm.h (by decide) (by decide)) hRm.f rfl (Nat.le_of_ble_eq_true rfl) dL_law_977 ?_
  refine g_aload_n C dL_law_980 2 rfl rfl ?_
  refine g_rd C hX (k := 1) (K := 1) rfl hI.1 dL_law_981 dL_law_982 dL_law_983 dL_law_984 dL_law_985 ?_
  refine gh_i C (n := 16) (a := d) (g := cD d cI cZ B) (g2 := cD d cI cZ B2) (As := [.int (xs (i + 1).toNatClampNeg)]) (rest := [.int r]) (k_X7_weeks (xs (i + 1).toNatClampNeg) B B2 r e2) wl_1000 ok_X7_weeks rv_X7 (hRm.h (by decide) (by decide)) hRm.f rfl (Nat.le_of_ble_eq_true rfl) dL_law_986 ?_
  exact g_icmp_eq C (tgt := 1040) dL_law_989 (by decide) (fun _ => kk A2 B2 hR2) (fun h => absurd rfl h)
set_option maxHeartbeats 4000000 in
theorem br_keep (C : gC p s m args meth c cL_law 4 rt0 RL (dC, dI) vwCl (tyW cI cZ cS) A0 H0) (hX : LX s H0 A0 b L xs) (hRm : Rm R cells slots) (hI : In5 i L) (hR : Rel A B) (kk : ∀ A2 B2 : MM, Rel A2 B2 → gG p l e R s m args below meth c 4 (dC, dI) vwCl A0 H0 cells slots Q (wC a cI cS A2 ++ wD d cI cZ B2) 1040 (lvL b (a 0) (d 0) i) []) : gG p l e R s m args below meth c 4 (dC, dI) vwCl A0 H0 cells slots Q (wC a cI cS A ++ wD d cI cZ B) 994 (lvL b (a 0) (d 0) i) [] := by
  obtain ⟨r, A2, B2, e1, e2, hR2⟩ := o_keep hR (xs (i + 1).toNatClampNeg)
  refine g_aload_n C dL_law_994 1 rfl rfl ?_
  refine g_rd C hX (k := 1) (K := 1) rfl hI.1 dL_law_995 dL_law_996 dL_law_997 dL_law_998 dL_law_999 ?_
  refine gh_i C (n := 106) (a := a) (g := cC a cI cS A) (g2 := cC a cI cS A2) (As := [.int (xs (i + 1).toNatClampNeg)]) (rest := []) (k_X6_keep (xs (i + 1).toNatClampNeg) A A2 r e1) wl_640 ok_X6_keep rv_X6 (hRm.h (by decide) (by decide)) hRm.f rfl (Nat.le_of_ble_eq_true rfl) dL_law_1000 ?_
  refine g_aload_n C dL_law_1003 2 rfl rfl ?_
  refine g_rd C hX (k := 1) (K := 1) rfl hI.1 dL_law_1004 dL_law_1005 dL_law_1006 dL_law_1007 dL_law_1008 ?_
  refine gh_i C (n := 16) (a := d) (g := cD d cI cZ B) (g2 := cD d cI cZ B2) (As := [.int (xs (i + 1).toNatClampNeg)]) (rest := [.int r]) (k_X7_keep (xs (i + 1).toNatClampNeg) B B2 r e2) wl_1008 ok_X7_keep rv_X7 (hRm.h (by decide) (by decide)) hRm.f rfl (Nat.le_of_ble_eq_true rfl) dL_law_1009 ?_
  exact g_icmp_eq C (tgt := 1040) dL_law_1012 (by decide) (fun _ => kk A2 B2 hR2) (fun h => absurd rfl h)
set_option maxHeartbeats 4000000 in
theorem br_again (C : gC p s m args meth c cL_law 4 rt0 RL (dC, dI) vwCl (tyW cI cZ cS) A0 H0) (hX : LX s H0 A0 b L xs) (hRm : Rm R cells slots) (hI : In5 i L) (hR : Rel A B) (kk : ∀ A2 B2 : MM, Rel A2 B2 → gG p l e R s m args below meth c 4 (dC, dI) vwCl A0 H0 cells slots Q (wC a cI cS A2 ++ wD d cI cZ B2) 1040 (lvL b (a 0) (d 0) i) []) : gG p l e R s m args below meth c 4 (dC, dI) vwCl A0 H0 cells slots Q (wC a cI cS A ++ wD d cI cZ B) 1017 (lvL b (a 0) (d 0) i) [] := by
  obtain ⟨r, A2, B2, e1, e2, hR2⟩ := o_again hR (xs (i + 1).toNatClampNeg)
  refine g_aload_n C dL_law_1017 1 rfl rfl ?_
  refine g_rd C hX (k := 1) (K := 1) rfl hI.1 dL_law_1018 dL_law_1019 dL_law_1020 dL_law_1021 dL_law_1022 ?_
  refine gh_i C (n := 106) (a := a) (g := cC a cI cS A) (g2 := cC a cI cS A2) (As := [.int (xs (i + 1).toNatClampNeg)]) (rest := []) (k_X6_again (xs (i + 1).toNatClampNeg) A A2 r e1) wl_653 ok_X6_again rv_X6 (hRm.h (by decide) (by decide)) hRm.f rfl (Nat.le_of_ble_eq_true rfl) dL_law_1023 ?_
  refine g_aload_n C dL_law_1026 2 rfl rfl ?_
  refine g_rd C hX (k := 1) (K := 1) rfl hI.1 dL_law_1027 dL_law_1028 dL_law_1029 dL_law_1030 dL_law_1031 ?_
  refine gh_i C (n := 16) (a := d) (g := cD d cI cZ B) (g2 := cD d cI cZ B2) (As := [.int (xs (i + 1).toNatClampNeg)]) (rest := [.int r]) (k_X7_again (xs (i + 1).toNatClampNeg) B B2 r e2) wl_1012 ok_X7_again rv_X7 (hRm.h (by decide) (by decide)) hRm.f rfl (Nat.le_of_ble_eq_true rfl) dL_law_1032 ?_
  exact g_icmp_eq C (tgt := 1040) dL_law_1035 (by decide) (fun _ => kk A2 B2 hR2) (fun h => absurd rfl h)
end
