-- text, feeling, keeping
theorem o_seed {A B : MM} (h : Rel A B) (x : Int64) : ∃ r A2 B2, q_X6_seed x A = some (r, A2) ∧ q_X7_seed x B = some (r, B2) ∧ Rel A2 B2 := by
  have h := h.z
  unfold q_X6_seed q_X7_seed
  generalize mU B 0 0 0 = B0 at *
  obtain ⟨P, s, ⟨h1, h2⟩, o1, hp, o2, o3, o4⟩ := h
  refine ⟨A.2, mL A x, mL B0 x, rfl, by rw [o4], P, s, ⟨h1, h2⟩, o1, hp, o2, o3, rfl⟩
-- a change of one field of each that the town does not read
theorem CS_0 {P : PL} {A A2 : MM} {s : SC} (h : CS P A 0 s) (h1 : ∀ q, 2 < q → q < 7 → A2.1 q = A.1 q) (h2 : A2.1 0 1 = A.1 0 1) (h3 : A2.1 0 2 = A.1 0 2) (h4 : A2.1 (9 + 0) = A.1 (9 + 0)) : CS P A2 0 s := by
  refine ⟨h.1, ?_, h.2.2.1, by rw [h4]; exact h.2.2.2⟩
  unfold PC
  rw [h2, h3, h1 3 (by omega) (by omega), h1 4 (by omega) (by omega), h1 5 (by omega) (by omega), h1 6 (by omega) (by omega)]
  exact h.2.1
theorem DS_0 {P : PL} {B B2 : MM} {s : SC} (h : DS P B 6 s) (h1 : B2.1 0 3 = B.1 0 3) (h2 : B2.1 0 4 = B.1 0 4) (h3 : B2.1 2 = B.1 2) (h4 : B2.1 3 = B.1 3) (h5 : B2.1 6 = B.1 6) : DS P B2 6 s := by
  refine ⟨h.1, ?_, h.2.2.1, by rw [h5]; exact h.2.2.2⟩
  unfold PD
  rw [h1, h2, h3, h4]
  exact h.2.1
theorem o_wipe {A B : MM} (h : Rel A B) : OK2 A B (q_X6_wipe A) (q_X7_wipe B) := by
  have h := h.z
  unfold q_X6_wipe q_X7_wipe
  generalize mU B 0 0 0 = B0 at *
  obtain ⟨P, s, ⟨h1, h2⟩, ⟨n, t1, t2, t3, t4⟩, hp, o2, o3, o4⟩ := h
  rw [show q_X4_clear A = some ((), mU A 0 0 0) from rfl, obd_of rfl, show t_X4_length A = A.1 0 0 from rfl, t2, t3]
  refine OK2.q _ ⟨P, s, ⟨CS_0 h1 (fun q a b => mU_r (by omega)) (mU_0 (by omega)) (mU_0 (by omega)) (mU_r (by omega)), DS_0 h2 (mU_0 (by omega)) (mU_0 (by omega)) (mU_r (by omega)) (mU_r (by omega)) (mU_r (by omega))⟩, ⟨0, by omega, mU_at, mU_at, fun j hj => absurd hj (by omega)⟩, RPs_c (mU_0 (by omega)) (mU_0 (by omega)) (fun q a b => mU_r (by omega)) (mU_0 (by omega)) (mU_r (by omega)) hp, RSl_c (mU_0 (by omega)) (fun q a => mU_r (by omega)) (mU_r (by omega)) (mU_r (by omega)) o2, RFe_c (mU_0 (by omega)) (mU_0 (by omega)) (mU_r (by omega)) (mU_r (by omega)) (mU_0 (by omega)) (mU_r (by omega)) (mU_r (by omega)) (mU_r (by omega)) o3, o4⟩
theorem o_write {A B : MM} (h : Rel A B) (x : Int32) : OK2 A B (q_X6_write x A) (q_X7_write x B) := by
  have h := h.z
  unfold q_X6_write q_X7_write
  generalize mU B 0 0 0 = B0 at *
  have hR := h
  obtain ⟨P, s, ⟨h1, h2⟩, ⟨n, t1, t2, t3, t4⟩, hp, o2, o3, o4⟩ := h
  rw [L255]
  rcases cases_n x (n := 256) (by decide) with o | ⟨v, hv, rfl⟩
  · rw [inF 256 (by decide) (by decide) o, if_pos b2i_f]
    rcases o with o | o
    · rw [if_pos o]
      exact OK2.q _ hR
    · have : ¬ x ≤ nI 255 := fun q => nge (show 255 < 256 by omega) (by decide) (Int32.le_trans o q)
      rw [if_neg this]
      split
      · exact OK2.q _ hR
      · exact OK2.q _ hR
  · rw [inT 256 (by decide) (by decide) hv, if_neg b1n, if_neg (nI_pos (by omega)), if_pos (nI_le (by omega) (by omega)), t3]
    unfold q_X4_append
    rw [t2]
    by_cases e : n = 48
    · subst e
      rw [if_neg (nI_nlt (Nat.le_refl _) (by decide)), obd_of rfl, if_pos b2i_f, if_pos (show nI 48 = (48 : Int32) from rfl)]
      exact OK2.q _ hR
    · have e2 : t_put 1 0 48 (nI n) (nI v) A = mU A 1 n (nI v) := by
        unfold t_put
        rw [if_pos (ib_nI (by omega) (by decide)), ncl (by omega), Nat.zero_add]
      rw [if_pos (nI_lt (by omega) (by decide)), obd_of rfl, if_neg b1n, if_neg (show ¬ nI n = (48 : Int32) from fun q => e ((nI_eq (b := 48) (by omega) (by decide)).mp q)), ogd_pos (ib_nI (by omega) (by decide)), e2, ncl (by omega), mU_r (M := A) (by omega), mU_r (M := B0) (by omega), t2, t3, nI_1, mU_at, show ∀ M, t_X4_length M = M.1 0 0 from fun _ => rfl, mU_at]
      refine OK2.q _ ⟨P, s, ⟨CS_0 h1 (fun q a b => ?_) ?_ ?_ ?_, DS_0 h2 ?_ ?_ ?_ ?_ ?_⟩, ⟨n + 1, by omega, mU_at, mU_at, fun j hj => ?_⟩, RPs_c ?_ ?_ (fun q a b => ?_) ?_ ?_ hp, RSl_c ?_ (fun q a => ?_) ?_ ?_ o2, RFe_c ?_ ?_ ?_ ?_ ?_ ?_ ?_ ?_ o3, o4⟩
      all_goals first
        | (rw [mU_r (by omega), mU_r (by omega)])
        | (rw [mU_0 (by omega), mU_r (by omega)])
        | skip
      by_cases g : j = n
      · subst g
        rw [mU_r (by omega), mU_at, mU_r (by omega), mU_at]
      · rw [mU_r (by omega), mU_nc g, mU_r (by omega), mU_nc g]
        exact t4 j (by omega)
theorem o_unfeel {A B : MM} (h : Rel A B) : OK2 A B (q_X6_unfeel A) (q_X7_unfeel B) := by
  have h := h.z
  unfold q_X6_unfeel q_X7_unfeel
  generalize mU B 0 0 0 = B0 at *
  obtain ⟨P, s, ⟨h1, h2⟩, o1, hp, o2, ⟨nf, fr, f1, f2, f3, f4, f5⟩, o4⟩ := h
  rw [show q_X0_clear A = some ((), mU (mU A 0 7 0) 0 6 0) from rfl, obd_of rfl, show t_X0_size A = A.1 0 7 from rfl, f2, f3]
  refine OK2.q _ ⟨P, s, ⟨CS_0 h1 (fun q a b => ?_) ?_ ?_ ?_, DS_0 h2 ?_ ?_ ?_ ?_ ?_⟩, RX_c ?_ ?_ ?_ ?_ o1, RPs_c ?_ ?_ (fun q a b => ?_) ?_ ?_ hp, RSl_c ?_ (fun q a => ?_) ?_ ?_ o2, ⟨0, fun _ => false, by omega, ?_, mU_at, mU_at, fun j hj => absurd hj (by omega)⟩, o4⟩
  all_goals first
    | (rw [mU_r (by omega), mU_r (by omega)])
    | (rw [mU_r (by omega)])
    | (rw [mU_0 (by omega), mU_0 (by omega)])
    | (rw [mU_0 (by omega), mU_at]; rfl)
    | (rw [mU_0 (by omega)])
theorem upf {nf : Nat} {fr : Nat → Bool} (h : nf < 6) (b : Bool) : bs (fun j => decide (j < nf) && fr j) ||| (if b then (1 : Int32) <<< (nI nf &&& 31) else 0) = bs (fun j => decide (j < nf + 1) && upN fr nf b j) := by
  cases b with
  | true =>
    rw [if_pos rfl, one_sh h, bs_or]
    refine bs_congr (fun t ht => ?_)
    by_cases g : t = nf
    · subst g
      rw [show upN fr t true t = true from if_pos rfl]
      simp
    · rw [show upN fr nf true t = fr t from if_neg g]
      have : (t == nf) = false := by simpa using g
      rw [this, Bool.or_false]
      by_cases g2 : t < nf
      · rw [decide_eq_true g2, decide_eq_true (show t < nf + 1 by omega)]
      · rw [decide_eq_false g2, decide_eq_false (show ¬ t < nf + 1 by omega)]
  | false =>
    rw [if_neg (by decide), or_0]
    refine bs_congr (fun t ht => ?_)
    by_cases g : t = nf
    · subst g
      rw [show upN fr t false t = false from if_pos rfl]
      simp
    · rw [show upN fr nf false t = fr t from if_neg g]
      by_cases g2 : t < nf
      · rw [decide_eq_true g2, decide_eq_true (show t < nf + 1 by omega)]
      · rw [decide_eq_false g2, decide_eq_false (show ¬ t < nf + 1 by omega)]
theorem feel_C {A : MM} {nf : Nat} {fr : Nat → Bool} (f1 : nf < 6) (f2 : A.1 0 7 = nI nf) (f4 : A.1 0 6 = bs (fun j => decide (j < nf) && fr j)) {t u : Nat} {b : Bool} : q_X0_add (nI t) (nI u) (b2i b) A = some (true, mU (mU (mU (mU A 7 nf (nI t)) 8 nf (nI u)) 0 6 (bs (fun j => decide (j < nf + 1) && upN fr nf b j))) 0 7 (nI (nf + 1))) := by
  have e1 : t_put 7 0 6 (nI nf) (nI t) A = mU A 7 nf (nI t) := by
    unfold t_put
    rw [if_pos (ib_nI (by omega) (by decide)), ncl (by omega), Nat.zero_add]
  have e2 : t_put 8 0 6 (nI nf) (nI u) (mU A 7 nf (nI t)) = mU (mU A 7 nf (nI t)) 8 nf (nI u) := by
    unfold t_put
    rw [if_pos (ib_nI (by omega) (by decide)), ncl (by omega), Nat.zero_add]
  have e3 : (mU (mU A 7 nf (nI t)) 8 nf (nI u)).1 0 = A.1 0 := by rw [mU_r (by omega), mU_r (by omega)]
  unfold q_X0_add
  rw [f2, if_pos (show nI nf < (6 : Int32) from nI_lt (b := 6) f1 (by decide)), e1, mU_r (M := A) (by omega), f2, e2, e3, f2, f4]
  unfold q_X0_add_54
  have := upf (fr := fr) f1 b
  cases b with
  | true =>
    rw [if_pos rfl] at this
    rw [if_neg (show ¬ b2i true = 0 by decide), this, mU_0 (by omega), e3, f2, nI_1]
  | false =>
    rw [if_neg (by decide)] at this
    rw [if_pos b2i_f, this, mU_0 (by omega), e3, f2, nI_1]
theorem o_feel {A B : MM} (h : Rel A B) (x1 x2 x3 : Int32) : OK2 A B (q_X6_feel x1 x2 x3 A) (q_X7_feel x1 x2 x3 B) := by
  have h := h.z
  unfold q_X6_feel q_X7_feel
  generalize mU B 0 0 0 = B0 at *
  have hR := h
  obtain ⟨P, s, ⟨h1, h2⟩, o1, hp, o2, ⟨nf, fr, f1, f2, f3, f4, f5⟩, o4⟩ := h
  rcases cases_n x1 (n := 6) (by decide) with o | ⟨t, ht, rfl⟩
  · rw [is_out o, ns_out o, if_pos b2i_f, if_neg b1n]
    exact OK2.q _ hR
  · rw [is_in ht, ns_in ht, if_neg b1n, if_pos b2i_f, show (9 : Int32) = nI 9 from rfl]
    rcases cases_n x2 (n := 10) (by decide) with o | ⟨u, hu, rfl⟩
    · rw [rg_o2 (by decide) o, inF 10 (by decide) (by decide) o, if_pos b2i_f]
      exact OK2.q _ hR
    · rw [rg_i2 (by decide) hu, inT 10 (by decide) (by decide) hu, if_neg b1n]
      rcases cases_n x3 (n := 2) (by decide) with o | ⟨c, hc, rfl⟩
      · rw [ch_out o, inF 2 (by decide) (by decide) o, if_pos b2i_f, if_pos b2i_f]
        exact OK2.q _ hR
      · rw [ch_in hc, inT 2 (by decide) (by decide) hc, if_neg b1n, if_neg b1n]
        obtain ⟨b, hb⟩ : ∃ b : Bool, nI c = b2i b := by
          rcases (show c = 0 ∨ c = 1 by omega) with rfl | rfl
          · exact ⟨false, rfl⟩
          · exact ⟨true, rfl⟩
        have e0 : (if nI c = (1 : Int32) then q_X6_feel_45 (nI t) (nI u) (nI c) (nI t) (nI u) 1 A else q_X6_feel_45 (nI t) (nI u) (nI c) (nI t) (nI u) 0 A) = q_X6_feel_45 (nI t) (nI u) (nI c) (nI t) (nI u) (b2i b) A := by
          rw [hb]
          cases b <;> rfl
        rw [e0, hb, f3]
        unfold q_X6_feel_45
        by_cases e : nf = 6
        · subst e
          rw [if_pos (show nI 6 = (6 : Int32) from rfl)]
          unfold q_X0_add
          rw [f2, if_neg (by decide), obd_of rfl, if_pos b2i_f]
          exact OK2.q _ hR
        · have g1 : nf < 6 := by omega
          rw [feel_C g1 f2 f4, obd_of rfl, if_neg b1n, if_neg (show ¬ nI nf = (6 : Int32) from fun q => e ((nI_eq (b := 6) (by omega) (by decide)).mp q)), ogd_pos (ib_nI g1 (by decide)), ncl (by omega), show ∀ M, t_X0_size M = M.1 0 7 from fun _ => rfl, mU_at]
          rw [mU_r (M := B0) (r := 11) (by omega), f3, ogd_pos (ib_nI g1 (by decide)), ncl (by omega), mU_r (M := mU B0 11 _ _) (r := 12) (by omega), mU_r (M := B0) (r := 11) (by omega), f3, ogd_pos (ib_nI g1 (by decide)), ncl (by omega), mU_r (M := mU (mU B0 11 _ _) 12 _ _) (r := 13) (by omega), mU_r (M := mU B0 11 _ _) (r := 12) (by omega), mU_r (M := B0) (r := 11) (by omega), f3, nI_1, mU_at]
          refine OK2.q _ ⟨P, s, ⟨CS_0 h1 (fun q a b => ?_) ?_ ?_ ?_, DS_0 h2 ?_ ?_ ?_ ?_ ?_⟩, RX_c ?_ ?_ ?_ ?_ o1, RPs_c ?_ ?_ (fun q a b => ?_) ?_ ?_ hp, RSl_c ?_ (fun q a => ?_) ?_ ?_ o2, ⟨nf + 1, upN fr nf b, by omega, mU_at, mU_at, ?_, fun j hj => ?_⟩, o4⟩
          all_goals first
            | (rw [mU_r (by omega), mU_r (by omega), mU_r (by omega), mU_r (by omega)])
            | (rw [mU_0 (by omega), mU_0 (by omega), mU_r (by omega), mU_r (by omega)])
            | (rw [mU_0 (by omega), mU_r (by omega), mU_r (by omega), mU_r (by omega)])
            | (rw [mU_0 (by omega), mU_at]; done)
            | skip
          rw [mU_r (M := mU (mU (mU A _ _ _) _ _ _) _ _ _) (by omega), mU_r (M := mU (mU A _ _ _) _ _ _) (by omega), mU_r (M := mU A _ _ _) (by omega), mU_r (M := mU (mU (mU A _ _ _) _ _ _) _ _ _) (by omega), mU_r (M := mU (mU A _ _ _) _ _ _) (by omega), mU_r (M := mU (mU (mU B0 _ _ _) _ _ _) _ _ _) (by omega), mU_r (M := mU (mU B0 _ _ _) _ _ _) (by omega), mU_r (M := mU B0 _ _ _) (by omega), mU_r (M := mU (mU (mU B0 _ _ _) _ _ _) _ _ _) (by omega), mU_r (M := mU (mU B0 _ _ _) _ _ _) (by omega), mU_r (M := mU (mU (mU B0 _ _ _) _ _ _) _ _ _) (by omega)]
          by_cases g : j = nf
          · subst g
            exact ⟨t, u, ht, hu, mU_at, mU_at, mU_at, mU_at, by rw [mU_at, show upN fr j b j = b from if_pos rfl]⟩
          · obtain ⟨t2, u2, q1, q2, q3, q4, q5, q6, q7⟩ := f5 j (by omega)
            refine ⟨t2, u2, q1, q2, by rw [mU_nc g]; exact q3, by rw [mU_nc g]; exact q4, ?_, ?_, ?_⟩
            · rw [mU_nc g, mU_r (by omega)]; exact q5
            · rw [mU_nc g, mU_r (by omega)]; exact q6
            · rw [mU_nc g, mU_r (by omega), mU_r (by omega), show upN fr nf b j = fr j from if_neg g]; exact q7
