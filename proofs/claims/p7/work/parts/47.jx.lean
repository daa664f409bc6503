/-! the model's five calls that change what the rest hangs on, exactly -/
theorem TF.o {g : Nat → Int} {n m p : Nat} {r : Int} (h : TF g n (m + 1) p r) : ∃ o : OC, PartO g n p (2 - m) o ∧ ((∃ s : Nat, o = (false, s) ∧ r = s) ∨ ∃ p2 : Nat, o = (true, p2) ∧ TF g n m p2 r) := by
  rcases h with ⟨s, h1, h2⟩ | ⟨p2, h1, h2⟩
  · exact ⟨(false, s), h1, Or.inl ⟨s, rfl, h2⟩⟩
  · exact ⟨(true, p2), h1, Or.inr ⟨p2, rfl, h2⟩⟩
theorem IM.to {κ κ2 : Ky} {w : Wd} (i : IM κ w) (h : κ = κ2) : IM κ2 w := h ▸ i
section JX
variable {Γ : Gx} {d : Nat} {κ : Ky} {w : Wd}
theorem jx_X5_feed (hd : 2 ≤ d) (hG : GM Γ) {p1 : Int32} (i : IM κ w) {Q : Int32 → Wd → Prop} (k : ∀ (r : Int32) (w' : Wd), r = feedA κ p1 → IM (feedK κ p1) w' → Q r w') : CI Γ d M_X5_feed [.ref (gad Γ 0), .int p1] w Q := by
  obtain ⟨d, rfl⟩ : ∃ e, d = e + 1 := ⟨d - 1, by omega⟩
  refine con_X5_feed hG ?_
  unfold wp_X5_feed
  have z := i.num
  have ek := i.1
  have e2 : κ.2.1 = w 0 7 := by rw [← ek]; rfl
  have n160 : (160 : Int32).toInt = 160 := rfl
  have n1 : (1 : Int32).toInt = 1 := rfl
  refine cs_X5_within (by omega) hG (lo := 0) (hi := 255) rfl rfl (fun r1 _ y => ⟨fun h => ⟨fun h2 w5 e5 => ⟨vp_in_iff.mpr ?_, fun w8 e8 => k _ _ ?_ ?_⟩, fun h2 => k _ _ ?_ (i.to ?_)⟩, fun h => k _ _ ?_ (i.to ?_)⟩)
  · have : ¬ (w 0 7).toInt = 160 := fun q => h2 (i_ext q)
    omega
  · have hp := y.mp h
    have : ¬ κ.2.1.toInt = 160 := fun q => h2 (i_ext (by rw [← e2]; exact q))
    unfold feedA
    rw [if_pos hp, if_neg this, e2, e8, ws_col (by decide), e5, ws_hit]
  · have hp := y.mp h
    have h3 : ¬ κ.2.1.toInt = 160 := fun q => h2 (i_ext (by rw [← e2]; exact q))
    have h4 : ¬ (w 0 7).toInt = 160 := fun q => h2 (i_ext q)
    have ea := i_add (x := w 0 7) (y := 1) (by omega) (by omega)
    have j5 : JM w5 := e5 ▸ JM.m7 (by omega) (JM.of i)
    have j8 : JM w8 := e8 ▸ JM.tape j5
    refine IM.up j8 ?_
    unfold feedK
    rw [if_pos hp, if_neg h3, ← ek]
    have q7 : w8 0 7 = w 0 7 + 1 := by rw [e8, ws_col (by decide), e5, ws_hit]
    have q0 : ∀ s : Nat, s ≠ 7 → w8 0 s = w 0 s := fun s hs => by rw [e8, ws_col (by decide), e5, ws_row hs]
    have q5 : ∀ j : Nat, w8 5 j = if j = (w 0 7).toNatClampNeg then p1 else w 5 j := fun j => by
      rw [e8]
      by_cases hj : j = (w 0 7).toNatClampNeg
      · rw [if_pos hj, hj, ws_hit]
      · rw [if_neg hj, ws_row hj, e5, ws_col (by decide)]
    unfold kM
    rw [q7, tape_put (by omega) (by omega) q5, q0 9 (by decide), q0 6 (by decide), q0 32 (by decide), q0 35 (by decide)]
  · have hp := y.mp h
    unfold feedA
    rw [if_pos hp, if_pos (by rw [e2, h2]; rfl)]
  · have hp := y.mp h
    unfold feedK
    rw [if_pos hp, if_pos (by rw [e2, h2]; rfl)]
  · unfold feedA
    rw [if_neg (fun q => y.mpr q h)]
  · unfold feedK
    rw [if_neg (fun q => y.mpr q h)]
theorem jx_X5_force (hd : 2 ≤ d) (hG : GM Γ) {p1 : Int32} (i : IM κ w) {Q : Int32 → Wd → Prop} (k : ∀ (r : Int32) (w' : Wd), r = forceA κ p1 → IM (forceK κ p1) w' → Q r w') : CI Γ d M_X5_force [.ref (gad Γ 0), .int p1] w Q := by
  obtain ⟨d, rfl⟩ : ∃ e, d = e + 1 := ⟨d - 1, by omega⟩
  refine con_X5_force hG ?_
  unfold wp_X5_force
  have z := i.num
  have ek := i.1
  have e1 : κ.1 = w 0 9 := by rw [← ek]; rfl
  have n1 : (1 : Int32).toInt = 1 := rfl
  have e := i_sub (x := w 0 9) (y := 1) (by omega) (by omega)
  refine cs_X5_within (by omega) hG (lo := 0) (hi := (w 0 9 - 1).toInt) rfl rfl (fun r1 _ y => ⟨fun h w4 e4 => ?_, fun h => ?_⟩)
  · have hp := y.mp h
    have hp2 : 0 ≤ p1.toInt ∧ p1.toInt < κ.1.toInt := by
      rw [e1]
      omega
    have j4 : JM w4 := e4 ▸ JM.m6 (by omega) (JM.of i)
    refine k _ _ ?_ (IM.up j4 ?_)
    · unfold forceA
      rw [if_pos hp2, ← ek]
      rfl
    · unfold forceK
      have hr : kM w = withR κ κ.2.2.2.1 := ek
      rw [if_pos hp2, e4, kM_rule hr]
      rfl
  · have hp2 : ¬ (0 ≤ p1.toInt ∧ p1.toInt < κ.1.toInt) := fun q => y.mpr (by rw [e1] at q; omega) h
    refine k _ _ ?_ (i.to ?_)
    · unfold forceA
      rw [if_neg hp2]
    · unfold forceK
      rw [if_neg hp2]
set_option maxRecDepth 20000 in
theorem jx_X5_image (hd : 1 ≤ d) (hG : GM Γ) (i : IM κ w) {Q : Int32 → Wd → Prop} (k : ∀ (r : Int32) (w' : Wd), IM (imageK κ) w' → Q r w') : CI Γ d M_X5_image [.ref (gad Γ 0)] w Q := by
  obtain ⟨d, rfl⟩ : ∃ e, d = e + 1 := ⟨d - 1, by omega⟩
  refine con_X5_image hG ?_
  unfold wp_X5_image
  intro P31 P57 c31 c57
  have n1 : (1 : Int32).toInt = 1 := rfl
  have n5 : (5 : Int32).toInt = 5 := rfl
  have n8 : (8 : Int32).toInt = 8 := rfl
  have z0 : (0 : Int32).toInt = 0 := rfl
  have k57 : ∀ (m : Nat) (l1 : Int32) (u : Wd), IM (imageK κ) u → 0 ≤ l1.toInt → l1.toInt ≤ 5 → (6 - l1.toInt).toNat < m → P57 l1 u := by
    intro m
    induction m with
    | zero => exact fun _ _ _ _ _ h => absurd h (Nat.not_lt_zero _)
    | succ m ih =>
      intro l1 u iu a1 a2 hm
      refine c57 _ _ ⟨fun _ => k _ _ iu, fun h => ?_⟩
      rw [Int32.le_iff_toInt_le] at h
      have ea := i_add (x := l1) (y := 1) (by omega) (by omega)
      have eb := i_add (x := (5 : Int32)) (y := l1) (by omega) (by omega)
      refine ⟨vp_in_iff.mpr (by omega), vp_in_iff.mpr (by omega), fun v ev => ⟨vp_in_iff.mpr (by omega), fun x ex => ?_⟩⟩
      have iv : IM (imageK κ) v := ev ▸ IM.cell ⟨by decide, rfl⟩ iu
      have ix : IM (imageK κ) x := ex ▸ IM.cell ⟨by decide, rfl⟩ iv
      exact ih _ _ ix (by omega) (by omega) (by omega)
  have k31 : ∀ (m : Nat) (l1 : Int32) (u : Wd), IM (imageK κ) u → 0 ≤ l1.toInt → l1.toInt ≤ 8 → (9 - l1.toInt).toNat < m → P31 l1 u := by
    intro m
    induction m with
    | zero => exact fun _ _ _ _ _ h => absurd h (Nat.not_lt_zero _)
    | succ m ih =>
      intro l1 u iu a1 a2 hm
      refine c31 _ _ ⟨fun _ => k57 _ _ _ iu (by omega) (by omega) (Nat.lt_succ_self _), fun h => ?_⟩
      rw [Int32.le_iff_toInt_le] at h
      have ea := i_add (x := l1) (y := 1) (by omega) (by omega)
      refine ⟨vp_in_iff.mpr (by omega), (iu.2.2.2.2 _).1, fun v ev => ?_⟩
      have iv : IM (imageK κ) v := IM.up (ev ▸ JM.oldUsed (iu.2.2.2.2 _).1 (JM.of iu)) (by rw [ev, kM_set rfl]; exact iu.1)
      exact ih _ _ iv (by omega) (by omega) (by omega)
  intro w1 e1 w3 e3 w5 e5 w7 e7
  have zw := i.num
  have j1 : JM w1 := e1 ▸ JM.m32 (JM.of i)
  have q1 : ∀ s : Nat, s ≠ 32 → w1 0 s = w 0 s := fun s hs => by rw [e1, ws_row hs]
  have j3 : JM w3 := e3 ▸ JM.m33 (by rw [q1 2 (by decide)]; omega) j1
  have j5 : JM w5 := e5 ▸ JM.slot rfl j3
  have q5 : ∀ s : Nat, s ≠ 32 → s ≠ 33 → s ≠ 34 → w5 0 s = w 0 s := fun s a1 a2 a3 => by rw [e5, ws_row a3, e3, ws_row a2, q1 s a1]
  have j7 : JM w7 := e7 ▸ JM.m35 (by rw [q5 6 (by decide) (by decide) (by decide), q5 9 (by decide) (by decide) (by decide)]; omega) j5
  refine k31 _ _ w7 (IM.up j7 ?_) (by omega) (by omega) (Nat.lt_succ_self _)
  have q7 : ∀ s : Nat, s ≠ 32 → s ≠ 33 → s ≠ 34 → s ≠ 35 → w7 0 s = w 0 s := fun s a1 a2 a3 a4 => by rw [e7, ws_row a4, q5 s a1 a2 a3]
  have h32 : w7 0 32 = 1 := by rw [e7, ws_row (by decide), e5, ws_row (by decide), e3, ws_row (by decide), e1, ws_hit]
  have h35 : w7 0 35 = w 0 6 := by rw [e7, ws_hit, q5 6 (by decide) (by decide) (by decide)]
  have h5 : w7 5 = w 5 := by rw [e7, wset_off _ _ _ _ _ (by decide), e5, wset_off _ _ _ _ _ (by decide), e3, wset_off _ _ _ _ _ (by decide), e1, wset_off _ _ _ _ _ (by decide)]
  unfold imageK
  rw [← i.1]
  unfold kM
  rw [h32, h35, h5, q7 9 (by decide) (by decide) (by decide) (by decide), q7 7 (by decide) (by decide) (by decide) (by decide), q7 6 (by decide) (by decide) (by decide) (by decide)]
set_option maxRecDepth 20000 in
theorem jx_X5_back (hd : 1 ≤ d) (hG : GM Γ) (i : IM κ w) {Q : Int32 → Wd → Prop} (k : ∀ (r : Int32) (w' : Wd), IM (backK κ) w' → Q r w') : CI Γ d M_X5_back [.ref (gad Γ 0)] w Q := by
  obtain ⟨d, rfl⟩ : ∃ e, d = e + 1 := ⟨d - 1, by omega⟩
  refine con_X5_back hG ?_
  unfold wp_X5_back
  intro P36 P62 c36 c62
  have n1 : (1 : Int32).toInt = 1 := rfl
  have n5 : (5 : Int32).toInt = 5 := rfl
  have n8 : (8 : Int32).toInt = 8 := rfl
  have z0 : (0 : Int32).toInt = 0 := rfl
  have k62 : ∀ (m : Nat) (l1 : Int32) (u : Wd), IM (backK κ) u → 0 ≤ l1.toInt → l1.toInt ≤ 5 → (6 - l1.toInt).toNat < m → P62 l1 u := by
    intro m
    induction m with
    | zero => exact fun _ _ _ _ _ h => absurd h (Nat.not_lt_zero _)
    | succ m ih =>
      intro l1 u iu a1 a2 hm
      refine c62 _ _ ⟨fun _ => k _ _ iu, fun h => ?_⟩
      rw [Int32.le_iff_toInt_le] at h
      have ea := i_add (x := l1) (y := 1) (by omega) (by omega)
      have eb := i_add (x := (5 : Int32)) (y := l1) (by omega) (by omega)
      refine ⟨vp_in_iff.mpr (by omega), vp_in_iff.mpr (by omega), fun v ev => ⟨vp_in_iff.mpr (by omega), fun x ex => ?_⟩⟩
      have iv : IM (backK κ) v := ev ▸ IM.cell ⟨by decide, rfl⟩ iu
      have ix : IM (backK κ) x := ex ▸ IM.cell ⟨by decide, rfl⟩ iv
      exact ih _ _ ix (by omega) (by omega) (by omega)
  have k36 : ∀ (m : Nat) (l1 : Int32) (u : Wd), IM (backK κ) u → 0 ≤ l1.toInt → l1.toInt ≤ 8 → (9 - l1.toInt).toNat < m → P36 l1 u := by
    intro m
    induction m with
    | zero => exact fun _ _ _ _ _ h => absurd h (Nat.not_lt_zero _)
    | succ m ih =>
      intro l1 u iu a1 a2 hm
      refine c36 _ _ ⟨fun _ => k62 _ _ _ iu (by omega) (by omega) (Nat.lt_succ_self _), fun h => ?_⟩
      rw [Int32.le_iff_toInt_le] at h
      have ea := i_add (x := l1) (y := 1) (by omega) (by omega)
      refine ⟨vp_in_iff.mpr (by omega), (iu.2.2.2.2 _).2, fun v ev => ?_⟩
      have iv : IM (backK κ) v := IM.up (ev ▸ JM.used (iu.2.2.2.2 _).2 (JM.of iu)) (by rw [ev, kM_set rfl]; exact iu.1)
      exact ih _ _ iv (by omega) (by omega) (by omega)
  have zw := i.num
  have e5 : κ.2.2.2.2.1 = w 0 32 := by rw [← i.1]; rfl
  refine ⟨fun h w2 e2 w4 e4 w6 e6 => ?_, fun h => k _ _ (i.to ?_)⟩
  · have j2 : JM w2 := e2 ▸ JM.m2 (by omega) (JM.of i)
    have j4 : JM w4 := e4 ▸ JM.slot rfl j2
    have q4 : ∀ s : Nat, s ≠ 2 → s ≠ 0 → w4 0 s = w 0 s := fun s a1 a2 => by rw [e4, ws_row a2, e2, ws_row a1]
    have j6 : JM w6 := e6 ▸ JM.m6 (by rw [q4 35 (by decide) (by decide), q4 9 (by decide) (by decide)]; omega) j4
    refine k36 _ _ w6 (IM.up j6 ?_) (by omega) (by omega) (Nat.lt_succ_self _)
    have q6 : ∀ s : Nat, s ≠ 2 → s ≠ 0 → s ≠ 6 → w6 0 s = w 0 s := fun s a1 a2 a3 => by rw [e6, ws_row a3, q4 s a1 a2]
    have h6 : w6 0 6 = w 0 35 := by rw [e6, ws_hit, q4 35 (by decide) (by decide)]
    have h5 : w6 5 = w 5 := by rw [e6, wset_off _ _ _ _ _ (by decide), e4, wset_off _ _ _ _ _ (by decide), e2, wset_off _ _ _ _ _ (by decide)]
    unfold backK
    rw [if_neg (by rw [e5]; exact h), ← i.1]
    unfold kM
    rw [h6, h5, q6 9 (by decide) (by decide) (by decide), q6 7 (by decide) (by decide) (by decide), q6 32 (by decide) (by decide) (by decide), q6 35 (by decide) (by decide) (by decide)]
  · unfold backK
    rw [if_pos (by rw [e5]; exact h)]
set_option maxRecDepth 20000 in
set_option maxHeartbeats 4000000 in
theorem jx_X5_text (hd : 8 ≤ d) (hG : GM Γ) (i : IM κ w) {r0 : Int32} {κ2 : Ky} (hT : TxR κ r0 κ2) {Q : Int32 → Wd → Prop} (k : ∀ (r : Int32) (w' : Wd), r = r0 → IM κ2 w' → Q r w') : CI Γ d M_X5_text [.ref (gad Γ 0)] w Q := by
  obtain ⟨d, rfl⟩ : ∃ e, d = e + 1 := ⟨d - 1, by omega⟩
  refine con_X5_text hG ?_
  unfold wp_X5_text
  intro P c
  have z := i.num
  have ek := i.1
  have j0 : JM w := JM.of i
  have ek1 : κ.1 = w 0 9 := by rw [← ek]; rfl
  have ek2 : κ.2.1 = w 0 7 := by rw [← ek]; rfl
  have n6 : (6 : Int32).toInt = 6 := rfl
  rcases hT with ⟨h6, hr, hk2⟩ | ⟨h6, x, hTx, hx⟩
  · refine ⟨fun h => ?_, fun h => k _ _ hr.symm (i.to hk2.symm)⟩
    have : ¬ (w 0 9).toInt = 6 := fun q => h (i_ext q)
    rw [ek1] at h6
    omega
  rw [ek1] at h6
  obtain ⟨n, hn⟩ : ∃ n : Nat, n = (3 * (w 0 9).toInt).toNat := ⟨_, rfl⟩
  obtain ⟨b, hb⟩ : ∃ b : Nat, b = (w 0 13).toInt.toNat := ⟨_, rfl⟩
  obtain ⟨N, hN⟩ : ∃ N : Nat, N = κ.2.1.toInt.toNat := ⟨_, rfl⟩
  obtain ⟨g, hg⟩ : ∃ g : Nat → Int, g = tgK κ := ⟨_, rfl⟩
  rw [← hN, ← hg] at hTx
  have hN7 : (w 0 7).toInt = N := by
    rw [hN, ek2]
    omega
  have hgw : ∀ j : Nat, j < N → (w 5 j).toInt = g j := fun j hj => by
    have e : κ.2.2.1 = tapeOf (w 0 7) (w 5) := by rw [← ek]; rfl
    rw [hg]
    unfold tgK
    rw [e, tapeOf_lt (by omega)]
  have kv : ∀ u v : Wd, TB n b w u → (∀ s : Nat, s ≠ 7 → s ≠ 9 → s ≠ 13 → v 0 s = u 0 s) → v 0 7 = 0 → kM v = (v 0 9, 0, (fun _ => 0), κ.2.2.2) := fun u v T h1 h2 => by
    have q : ∀ s : Nat, s ≠ 7 → s ≠ 9 → s ≠ 13 → ¬ (14 ≤ s ∧ s ≤ 18) → ¬ (20 ≤ s ∧ s ≤ 24) → v 0 s = w 0 s := fun s a1 a2 a3 a4 a5 => (h1 s a1 a2 a3).trans (T.1 s a3 a4 a5)
    rw [← ek]
    unfold kM
    rw [h2, tape_nil, q 6 (by decide) (by decide) (by decide) (by decide) (by decide), q 32 (by decide) (by decide) (by decide) (by decide) (by decide), q 35 (by decide) (by decide) (by decide) (by decide) (by decide)]
  have bad : ∀ (u : Wd) (s : Nat), TB n b w u → (u 0 14).toInt = s → x.toInt = s → P (w 0 13) 0 u := fun u s T h14 hs => by
    obtain ⟨_, hr, hk⟩ : ¬ x.toInt = -1 ∧ r0 = -100 - x ∧ κ2 = (κ.1, 0, (fun _ => 0), κ.2.2.2) := by
      rcases hx with hx | hx
      · omega
      · exact hx
    refine c _ _ _ (fun w16 e16 => ⟨fun _ w19 e19 => k _ _ ?_ (IM.up (j0.fail hn (hb ▸ T) (by rw [e19, e16])) ?_), fun q => absurd rfl q⟩)
    · have e : w19 0 14 = x := i_ext (by rw [e19, ws_row (by decide), e16, ws_row (by decide), h14, hs])
      rw [e, hr]
    · rw [hk, kv u w19 T (fun s a1 a2 a3 => by rw [e19, ws_row a3, e16, ws_row a1]) (by rw [e19, ws_row (by decide), e16, ws_hit]), ek1]
      rw [e19, ws_row (by decide), e16, ws_row (by decide), T.1 9 (by decide) (by decide) (by decide)]
  refine ⟨fun h66 w2 e2 => ?_, fun h66 => absurd (congrArg Int32.toInt h66) (by omega)⟩
  have s2 : ∀ s : Nat, s ≠ 15 → w2 0 s = w 0 s := fun s hs => by rw [e2, ws_row hs]
  have t15 : (w2 0 15).toInt = (0 : Nat) := by rw [e2, ws_hit]; rfl
  have T2 : TB n b w w2 := by
    rw [e2]
    exact TB.nk (NK.set (by decide) NK.rfl)
  have sz : ∀ u : Wd, TB n b w u → (u 0 7).toInt = N ∧ ∀ j : Nat, j < N → (u 5 j).toInt = g j := fun u T => ⟨by rw [T.1 7 (by decide) (by decide) (by decide)]; exact hN7, fun j hj => by rw [T.2.1 5 (by decide) (by decide) (by decide) (by decide) (by decide)]; exact hgw j hj⟩
  refine mt_next (by omega) hG (sz w2 T2).1 (by omega) (sz w2 T2).2 t15 (by omega) (fun w5 st5 en5 kk5 N5 X5 h14 h15 tk5 M5 => ?_)
  have T5 : TB n b w w5 := T2.trans (TB.nk N5)
  have n3 : ∀ (u : Wd), TB n b w u → ((3 : Int32) * u 0 9).toInt = 3 * (w 0 9).toInt := fun u T => by
    rw [T.1 9 (by decide) (by decide) (by decide)]
    exact i_mulL (c := (3 : Int32)) (v := 3) rfl (by omega) (by omega)
  have c5 : (w5 0 13).toInt = (w 0 13).toInt := by rw [N5.2 13 (by decide), s2 13 (by decide)]
  have x5 := X5.1
  have p0 := n3 w5 T5
  have q0 : ((3 : Int32) * w5 0 9).toNatClampNeg = n := by
    have := tn_eq (x := (3 : Int32) * w5 0 9) (by omega)
    omega
  obtain ⟨o1, hO1, ho1⟩ := TF.o (m := 2) hTx
  refine mt_part (by omega) hG (c0 := (w 0 13).toInt) (by omega) (by omega) X5 (by omega) (sz w5 T5).1 (by omega) (sz w5 T5).2 ⟨tk5, h14, h15, M5⟩ (Or.inl ⟨rfl, by decide⟩) hO1 (fun r6 w7 g6 T7 hm1 => ?_)
  rw [q0] at g6 T7
  have T7w : TB n b w w7 := T5.trans (T7.mono (Nat.le_refl n) (by clear hm1 ho1; omega))
  refine ⟨fun h0 => ?_, fun hr6 => ?_⟩
  · rcases hm1 with ⟨_, s, e, h⟩ | ⟨h, _⟩
    · rcases ho1 with ⟨s', e', hs⟩ | ⟨p2, e', _⟩
      · rw [e] at e'
        exact bad w7 s T7w h (by rw [hs, (Prod.mk.inj e').2])
      · rw [e] at e'
        exact absurd (Prod.mk.inj e').1 (by decide)
    · exact absurd h0 h
  obtain ⟨pe1, s21, e21, k21, eo1, K7⟩ : ∃ (e s2 e2 : Nat) (k2 : Int), o1 = (true, e) ∧ TK g N e s2 e2 k2 w7 := by
    rcases hm1 with h | h
    · exact absurd h.1 hr6
    · exact h.2
  have hT1 : TF g N 2 pe1 x.toInt := by
    rcases ho1 with ⟨s', e', hs⟩ | ⟨p2, e', h⟩
    · rw [eo1] at e'
      exact absurd (Prod.mk.inj e').1 (by decide)
    · rw [eo1] at e'
      rw [(Prod.mk.inj e').2]
      exact h
  clear hm1 ho1
  obtain ⟨X7, l7, P7⟩ := g6 hr6
  have a7 := P7.2.1
  have X7c := X7
  obtain ⟨y1, y2, y3, y4, -, -⟩ := X7c
  have G7 := P7.good (by omega) (by omega)
  have n1 : (1 : Int32).toInt = 1 := rfl
  have n2 : (2 : Int32).toInt = 2 := rfl
  have p1 := n3 w7 T7w
  have e1 := i_add (x := (3 : Int32) * w7 0 9) (y := 1) (by omega) (by omega)
  have q1 : ((3 : Int32) * w7 0 9 + 1).toNatClampNeg = n + 1 := by
    have := tn_eq (x := (3 : Int32) * w7 0 9 + 1) (by omega)
    omega
  obtain ⟨o2, hO2, ho2⟩ := TF.o (m := 1) hT1
  refine mt_part (by omega) hG (c0 := (w 0 13).toInt) (by omega) (by omega) X7 (by omega) (sz w7 T7w).1 (by omega) (sz w7 T7w).2 K7 (Or.inr (Or.inl ⟨rfl, by decide⟩)) hO2 (fun r9 w10 g9 T10 hm2 => ?_)
  rw [q1] at g9 T10
  have T10w : TB n b w w10 := T7w.trans (T10.mono (by clear hm2 ho2; omega) (by clear hm2 ho2; omega))
  refine ⟨fun h0 => ?_, fun hr9 => ?_⟩
  · rcases hm2 with ⟨_, s, e, h⟩ | ⟨h, _⟩
    · rcases ho2 with ⟨s', e', hs⟩ | ⟨p2, e', _⟩
      · rw [e] at e'
        exact bad w10 s T10w h (by rw [hs, (Prod.mk.inj e').2])
      · rw [e] at e'
        exact absurd (Prod.mk.inj e').1 (by decide)
    · exact absurd h0 h
  obtain ⟨pe2, s22, e22, k22, eo2, K10⟩ : ∃ (e s2 e2 : Nat) (k2 : Int), o2 = (true, e) ∧ TK g N e s2 e2 k2 w10 := by
    rcases hm2 with h | h
    · exact absurd h.1 hr9
    · exact h.2
  have hT2 : TF g N 1 pe2 x.toInt := by
    rcases ho2 with ⟨s', e', hs⟩ | ⟨p2, e', h⟩
    · rw [eo2] at e'
      exact absurd (Prod.mk.inj e').1 (by decide)
    · rw [eo2] at e'
      rw [(Prod.mk.inj e').2]
      exact h
  clear hm2 ho2
  obtain ⟨X10, l10, P10⟩ := g9 hr9
  have a10 := P10.2.1
  have X10c := X10
  obtain ⟨u1, u2, u3, u4, -, -⟩ := X10c
  have G10 := P10.good (by omega) (by omega)
  have G7' : PG w10 n (w10 0 13).toInt := G7.keep T10 (by omega) (by omega) (by omega)
  have p2 := n3 w10 T10w
  have e2' := i_add (x := (3 : Int32) * w10 0 9) (y := 2) (by omega) (by omega)
  have q2 : ((3 : Int32) * w10 0 9 + 2).toNatClampNeg = n + 2 := by
    have := tn_eq (x := (3 : Int32) * w10 0 9 + 2) (by omega)
    omega
  obtain ⟨o3, hO3, ho3⟩ := TF.o (m := 0) hT2
  refine mt_part (by omega) hG (c0 := (w 0 13).toInt) (by omega) (by omega) X10 (by omega) (sz w10 T10w).1 (by omega) (sz w10 T10w).2 K10 (Or.inr (Or.inr ⟨rfl, by decide⟩)) hO3 (fun r12 w13 g12 T13 hm3 => ?_)
  rw [q2] at g12 T13
  have T13w : TB n b w w13 := T10w.trans (T13.mono (by clear hm3 ho3; omega) (by clear hm3 ho3; omega))
  refine ⟨fun h0 => ?_, fun hr12 => ?_⟩
  · rcases hm3 with ⟨_, s, e, h⟩ | ⟨h, _⟩
    · rcases ho3 with ⟨s', e', hs⟩ | ⟨p2, e', _⟩
      · rw [e] at e'
        exact bad w13 s T13w h (by rw [hs, (Prod.mk.inj e').2])
      · rw [e] at e'
        exact absurd (Prod.mk.inj e').1 (by decide)
    · exact absurd h0 h
  obtain ⟨pe3, s23, e23, k23, eo3, K13⟩ : ∃ (e s2 e2 : Nat) (k2 : Int), o3 = (true, e) ∧ TK g N e s2 e2 k2 w13 := by
    rcases hm3 with h | h
    · exact absurd h.1 hr12
    · exact h.2
  have hT3 : TF g N 0 pe3 x.toInt := by
    rcases ho3 with ⟨s', e', hs⟩ | ⟨p2, e', h⟩
    · rw [eo3] at e'
      exact absurd (Prod.mk.inj e').1 (by decide)
    · rw [eo3] at e'
      rw [(Prod.mk.inj e').2]
      exact h
  clear hm3 ho3
  obtain ⟨stE, enE, kE, tkE, hE⟩ := hT3
  obtain ⟨z1, z2, z3⟩ := K13.1.uniq tkE
  subst z1
  subst z2
  subst z3
  have d101 := K13.2.2.2.d.1
  refine ⟨fun hne => ?_, fun heq => ?_⟩
  · rcases hE with hE | hE
    · exact absurd (i_ext (d101.mpr hE.1)) hne
    · exact bad w13 s23 T13w K13.2.1 hE.2
  have k0 := d101.mp (tIe heq)
  have hx1 : x.toInt = -1 := by
    rcases hE with hE | hE
    · exact hE.2
    · exact absurd k0 hE.1
  obtain ⟨hr, hk⟩ : r0 = κ.1 ∧ κ2 = (κ.1 + 1, 0, (fun _ => 0), κ.2.2.2) := by
    rcases hx with hx | hx
    · exact hx.2
    · exact absurd hx1 hx.1
  obtain ⟨X13, l13, P13⟩ := g12 hr12
  have a13 := P13.2.1
  have X13c := X13
  obtain ⟨v1, v2, v3, v4, -, -⟩ := X13c
  have G13 := P13.good (by omega) (by omega)
  have H7 : PG w13 n (w13 0 13).toInt := G7'.keep T13 (by omega) (by omega) (by omega)
  have H10 : PG w13 (n + 1) (w13 0 13).toInt := G10.keep T13 (by omega) (by omega) (by omega)
  refine c _ _ _ (fun w16 e16 => ⟨fun q => absurd q (by decide), fun _ w21 e21 => k _ _ ?_ (IM.up (j0.done hn (by omega) (hb ▸ T13w) (by omega) (fun q h1 h2 => ?_) (by rw [e21, e16])) ?_)⟩)
  · rw [hr, ek1, e16, ws_row (by decide), T13w.1 9 (by decide) (by decide) (by decide)]
  · rcases (show q = n ∨ q = n + 1 ∨ q = n + 2 by omega) with rfl | rfl | rfl
    · exact H7
    · exact H10
    · exact G13
  · rw [hk, kv w13 w21 T13w (fun s a1 a2 a3 => by rw [e21, ws_row a2, e16, ws_row a1]) (by rw [e21, ws_row (by decide), e16, ws_hit]), ek1]
    rw [e21, ws_hit, e16, ws_row (by decide), T13w.1 9 (by decide) (by decide) (by decide)]
end JX
