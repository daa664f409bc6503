/-! the model's reading, exactly: what waits -/
def stk (f : Nat → Int32) : Nat → List Int
  | 0 => []
  | k + 1 => (f k).toInt :: stk f k
theorem stk_congr {f g : Nat → Int32} : ∀ k : Nat, (∀ j : Nat, j < k → g j = f j) → stk g k = stk f k
  | 0, _ => rfl
  | k + 1, h => by
    show (g k).toInt :: stk g k = (f k).toInt :: stk f k
    rw [stk_congr k (fun j hj => h j (by omega)), h k (by omega)]
theorem cnt_le : ∀ S : List Int, cnt S ≤ S.length
  | [] => Int.le_refl 0
  | x :: S => by
    have := cnt_le S
    show cnt S + _ ≤ ((S.length + 1 : Nat) : Int)
    split <;> omega
theorem stk_len {f : Nat → Int32} : ∀ k : Nat, (stk f k).length = k
  | 0 => rfl
  | k + 1 => by
    show (stk f k).length + 1 = k + 1
    rw [stk_len k]
/-- what waits is S -/
def TS (w : Wd) (S : List Int) : Prop := stk (w 9) (w 0 20).toInt.toNat = S ∧ (w 0 21).toInt = cnt S
theorem TS.congr {w w' : Wd} {S : List Int} (h20 : w' 0 20 = w 0 20) (h21 : w' 0 21 = w 0 21) (h9 : w' 9 = w 9) (h : TS w S) : TS w' S := by
  unfold TS at *
  rw [h20, h21, h9]
  exact h
theorem TS.set {w : Wd} {s : Nat} {v : Int32} {S : List Int} (hs : s ≠ 20 ∧ s ≠ 21) (h : TS w S) : TS (wset w 0 s v) S := TS.congr (ws_row (Ne.symm hs.1)) (ws_row (Ne.symm hs.2)) (wset_off _ _ _ _ _ (by decide)) h
theorem TS.len {w : Wd} {S : List Int} (h : TS w S) : S.length = (w 0 20).toInt.toNat := by
  rw [← h.1]
  exact stk_len _
theorem TS.nil {w : Wd} {S : List Int} (h : TS w S) : (w 0 20).toInt ≤ 0 ↔ S = [] := by
  have l := h.len
  constructor
  · intro q
    exact List.length_eq_zero_iff.mp (by omega)
  · intro q
    rw [q] at l
    have : ([] : List Int).length = 0 := rfl
    omega
theorem mt_rank {Γ : Gx} {d : Nat} (hd : 1 ≤ d) (hG : GM Γ) {p1 : Int32} {w : Wd} {Q : Int32 → Wd → Prop} (k : ∀ r : Int32, r.toInt = rk p1.toInt → Q r w) : CI Γ d M_X5_rank [.int p1] w Q := by
  obtain ⟨d, rfl⟩ : ∃ e, d = e + 1 := ⟨d - 1, by omega⟩
  refine con_X5_rank hG ?_
  unfold wp_X5_rank
  have g : ∀ (r c : Int32), p1 = c → r.toInt = rk c.toInt → Q r w := fun r c h1 h2 => k r (by rw [h1]; exact h2)
  refine ⟨fun h => g 1 _ h rfl, fun h => g 2 _ h rfl, fun h => g 3 _ h rfl, fun h => ?_, fun h => ?_, fun h => g 6 _ h rfl, fun h => g 7 _ h rfl, fun h => ?_⟩
  · rcases h with h | h
    · exact g 4 _ h rfl
    · exact g 4 _ h rfl
  · rcases h with h | h
    · exact g 5 _ h rfl
    · exact g 5 _ h rfl
  · simp only [← Int32.toInt_inj, Int32.reduceToInt] at h
    refine k 0 ?_
    unfold rk
    rw [if_neg (by omega), if_neg (by omega), if_neg (by omega), if_neg (by omega), if_neg (by omega), if_neg (by omega), if_neg (by omega)]
    rfl
theorem rk_wait {x : Int32} (h : waitOK x) : (rk x.toInt = 0 ↔ x.toInt = -1 ∨ x.toInt = -2) ∧ 0 ≤ rk x.toInt := by
  have key : ∀ c : Int, (c = -1 ∨ c = -2 ∨ (6 ≤ c ∧ c ≤ 14)) → (rk c = 0 ↔ c = -1 ∨ c = -2) ∧ 0 ≤ rk c := fun c hc => by
    rcases (show c = -1 ∨ c = -2 ∨ c = 6 ∨ c = 7 ∨ c = 8 ∨ c = 9 ∨ c = 10 ∨ c = 11 ∨ c = 12 ∨ c = 13 ∨ c = 14 by omega) with rfl | rfl | rfl | rfl | rfl | rfl | rfl | rfl | rfl | rfl | rfl <;> decide
  exact key _ h
theorem mt_push {Γ : Gx} {d : Nat} (hd : 2 ≤ d) (hG : GM Γ) {b : Nat} {lim g g' : Int} {p1 : Int32} {w : Wd} (hl : lim ≤ b + 198) (hx : waitOK p1) (hg : g' = g - (if 6 ≤ p1.toInt ∧ p1.toInt ≤ 12 then 1 else 0)) (R : RS b lim g w) {S : List Int} (hS : TS w S) {Q : Wd → Prop} (k : ∀ w' : Wd, RS b (lim + 1) g' w' → KP b w w' → K2 w w' → TS w' (p1.toInt :: S) → Q w') : CV Γ d M_X5_push [.ref (gad Γ 0), .int p1] w Q := by
  obtain ⟨d, rfl⟩ : ∃ e, d = e + 1 := ⟨d - 1, by omega⟩
  refine con_X5_push hG ?_
  unfold wp_X5_push
  obtain ⟨r1, r2, r3, r4, r5, r6⟩ := R
  have n1 : (1 : Int32).toInt = 1 := rfl
  have ea := i_add (x := w 0 20) (y := 1) (by omega) (by omega)
  have et := tn_eq (x := w 0 20) (by omega)
  intro w1 e1
  refine ⟨vp_in_iff.mpr (by omega), fun w4 e4 => ?_⟩
  obtain ⟨n, hn⟩ : ∃ n : Nat, n = (w 0 20).toInt.toNat := ⟨_, rfl⟩
  have hx2 : (w 0 20).toNatClampNeg = n := by omega
  rw [hx2] at e4
  have q13 : w4 0 13 = w 0 13 := by rw [e4, ws_col (by decide), e1, ws_row (by decide)]
  have q20 : (w4 0 20).toInt = (w 0 20).toInt + 1 := by
    rw [e4, ws_col (by decide), e1, ws_hit]
    omega
  have q8 : w4 8 = w 8 := by rw [e4, wset_off _ _ _ _ _ (by decide), e1, wset_off _ _ _ _ _ (by decide)]
  have q9 : w4 9 n = p1 := by rw [e4, ws_hit]
  have lo9 : ∀ j : Nat, j ≠ n → w4 9 j = w 9 j := fun j hj => by rw [e4, ws_row hj, e1, ws_col (by decide)]
  have R4 : RS b (lim + 1) g' w4 := by
    unfold RS
    rw [q13, q8]
    refine ⟨r1, by omega, by omega, fun j hj => ?_, r5, ?_⟩
    · by_cases e : j = n
      · rw [e, q9]
        exact hx
      · rw [lo9 j e]
        exact r4 j (by omega)
    · have e2 : (w4 0 20).toInt.toNat = n + 1 := by omega
      have e3 : bw (w4 9) (n + 1) = bw (w 9) n + (if 6 ≤ p1.toInt ∧ p1.toInt ≤ 12 then 1 else 0) := by
        show bw (w4 9) n + _ = _
        rw [q9, bw_congr n (fun j hj => lo9 j (by omega))]
      rw [e2, e3, r6, hn]
      omega
  have K4 : KP b w w4 := by
    rw [e4, e1]
    exact KP.trans (KP.set (Or.inr (Or.inl rfl))) KP.wait
  have L4 : K2 w w4 := by
    rw [e4, e1]
    exact K2.trans (K2.set (Or.inr (Or.inl rfl))) (K2.col (by decide))
  have L9 : stk (w4 9) (w4 0 20).toInt.toNat = p1.toInt :: S := by
    have e2 : (w4 0 20).toInt.toNat = n + 1 := by omega
    rw [e2]
    show (w4 9 n).toInt :: stk (w4 9) n = _
    rw [q9, stk_congr n (fun j hj => lo9 j (by omega)), hn, hS.1]
  have q21 : w4 0 21 = w 0 21 := by rw [e4, ws_col (by decide), e1, ws_row (by decide)]
  have cl := cnt_le S
  have sl := hS.len
  have s2 := hS.2
  have cn := cnt_nn S
  have eb := i_add (x := w 0 21) (y := 1) (by omega) (by omega)
  have go : ∀ v : Int32, v = w4 0 21 + 1 → (p1.toInt = 13 ∨ p1.toInt = 14 ∨ rk p1.toInt = 0) → Q (wset w4 0 21 v) := fun v hv hp => k _ (R4.set (by decide)) (K4.trans (KP.set (Or.inr (Or.inr (Or.inl rfl))))) (L4.trans (K2.set (Or.inr (Or.inr rfl)))) (by
    refine ⟨?_, ?_⟩
    · rw [ws_row (by decide), wset_off _ _ _ _ _ (by decide)]
      exact L9
    · rw [ws_hit, cnt_one hp, hv, q21]
      omega)
  refine ⟨fun h w7 e7 => e7 ▸ go _ rfl (Or.inl (by rw [h]; rfl)), fun h => ⟨fun h2 w7 e7 => e7 ▸ go _ rfl (Or.inr (Or.inl (by rw [h2]; rfl))), fun h2 => ?_⟩⟩
  refine mt_rank (by omega) hG (fun r hr => ⟨fun h3 => k _ R4 K4 L4 ⟨L9, ?_⟩, fun h3 w15 e15 => e15 ▸ go _ rfl (Or.inr (Or.inr (by rw [← hr, h3]; rfl)))⟩)
  have z0 : (0 : Int32).toInt = 0 := rfl
  have a1 : ¬ p1.toInt = 13 := fun q => h (i_ext q)
  have a2 : ¬ p1.toInt = 14 := fun q => h2 (i_ext q)
  have a3 : ¬ rk p1.toInt = 0 := fun q => h3 (i_ext (hr.trans q))
  rw [q21]
  show _ = cnt S + _
  rw [if_neg (by omega)]
  omega
theorem mt_lays_step {Γ : Gx} {d : Nat} (hd : 1 ≤ d) (hG : GM Γ) {b : Nat} {lim : Int} {p1 : Int32} {w : Wd} (hl : lim ≤ b + 199 ∧ lim ≤ 2900) (hp : 1 ≤ p1.toInt) (R : RS b lim 1 w) {S : List Int} (hS : TS w S) {Q P : Wd → Prop} (kQ : lay p1.toInt S = S → Q w) (kP : ∀ (w' : Wd) (S2 : List Int), RS b lim 1 w' → KP b w w' → K2 w w' → TS w' S2 → lay p1.toInt S = lay p1.toInt S2 → (w' 0 20).toInt < (w 0 20).toInt → P w') : laysF Γ d p1 Q P w := by
  unfold laysF
  obtain ⟨r1, r2, r3, r4, r5, r6⟩ := R
  have n1 : (1 : Int32).toInt = 1 := rfl
  refine ⟨fun h => kQ ?_, fun h => ?_⟩
  · simp only [Int32.le_iff_toInt_le, Int32.reduceToInt] at h
    rw [hS.nil.mp h]
    rfl
  simp only [Int32.le_iff_toInt_le, Int32.reduceToInt] at h
  have es := i_sub (x := w 0 20) (y := 1) (by omega) (by omega)
  have et := tn_eq (x := w 0 20 - 1) (by omega)
  obtain ⟨n, hn⟩ : ∃ n : Nat, n = (w 0 20 - 1).toNatClampNeg := ⟨_, rfl⟩
  have hw := r4 n (by omega)
  have hB : (w 0 20).toInt.toNat = n + 1 := by omega
  have hbw : bw (w 9) (n + 1) = bw (w 9) n + (if 6 ≤ (w 9 n).toInt ∧ (w 9 n).toInt ≤ 12 then 1 else 0) := rfl
  have hnn := bw_nn (f := w 9) n
  rw [hB, hbw] at r6
  have hrk := rk_wait hw
  obtain ⟨S2, hS2⟩ : ∃ S2 : List Int, S2 = stk (w 9) n := ⟨_, rfl⟩
  have hSe : S = (w 9 n).toInt :: S2 := by
    rw [← hS.1, hB, hS2]
    rfl
  have hc21 := hS.2
  refine ⟨vp_in_iff.mpr (by omega), ?_⟩
  rw [← hn]
  refine mt_rank (by omega) hG (fun r hr => ⟨fun h2 => kQ ?_, fun h2 => ?_⟩)
  · simp only [Int32.lt_iff_toInt_lt] at h2
    rw [hSe]
    exact lay_stop (by omega)
  simp only [Int32.lt_iff_toInt_lt] at h2
  have hlay : lay p1.toInt S = lay p1.toInt S2 := by
    rw [hSe]
    exact lay_over (by omega)
  have hc : 6 ≤ (w 9 n).toInt ∧ (w 9 n).toInt ≤ 14 := by
    unfold waitOK at hw
    by_cases q : (w 9 n).toInt = -1 ∨ (w 9 n).toInt = -2
    · have := hrk.1.mpr q
      omega
    · omega
  intro w6 e6
  have q20 : w6 0 20 = w 0 20 - 1 := by rw [e6, ws_hit]
  have q13 : w6 0 13 = w 0 13 := by rw [e6, ws_row (by decide)]
  have q8 : w6 8 = w 8 := by rw [e6, wset_off _ _ _ _ _ (by decide)]
  have q9 : w6 9 = w 9 := by rw [e6, wset_off _ _ _ _ _ (by decide)]
  have K6 : KP b w w6 := by
    rw [e6]
    exact KP.set (Or.inr (Or.inl rfl))
  have L6 : K2 w w6 := by
    rw [e6]
    exact K2.set (Or.inr (Or.inl rfl))
  rw [q20, ← hn, q9]
  refine ⟨vp_in_iff.mpr (by omega), ?_⟩
  refine cs_X5_codes (by omega) hG (by rw [q13]; exact vp_in_iff.mpr (by omega)) ?_
  generalize hv : wset (wset w6 0 13 (w6 0 13 + 1)) 8 (w6 0 13).toNatClampNeg (w 9 n) = v
  obtain ⟨a1, a2, a3, a4, a5, a6⟩ := emit_code (b := b) hv.symm (by rw [q13]; exact r1) (by rw [q13]; omega) (by rw [q13, q8]; exact r5) (by omega) (fun q => by rw [q13, q8, r6, if_neg (by omega)]; omega) (fun q => by rw [q13, q8, r6, if_pos q]; omega)
  have Rv : RS b lim 1 v := by
    unfold RS
    rw [a3, a4, q20, q9]
    rw [q13] at a1
    refine ⟨by omega, by omega, by omega, fun j hj => r4 j (by omega), a5, ?_⟩
    rw [a6, q13, q8, r6]
    have e2 : (w 0 20 - 1).toInt.toNat = n := by omega
    rw [e2]
    have hB2 : ¬ (15 ≤ (w 9 n).toInt ∨ (w 9 n).toInt ≤ 5) := by omega
    by_cases u : (w 9 n).toInt = 13 ∨ (w 9 n).toInt = 14
    · rw [if_neg (show ¬ (6 ≤ (w 9 n).toInt ∧ (w 9 n).toInt ≤ 12) by omega), if_neg hB2, if_pos u]
      omega
    · rw [if_pos (show 6 ≤ (w 9 n).toInt ∧ (w 9 n).toInt ≤ 12 by omega), if_neg hB2, if_neg u]
      omega
  have Kv : KP b w v := K6.trans a2
  have Lv : K2 w v := by
    rw [← hv]
    exact (L6.trans (K2.set (Or.inl rfl))).trans (K2.col (by decide))
  have v20 : v 0 20 = w 0 20 - 1 := by rw [a3, q20]
  have S2v : stk (v 9) (v 0 20).toInt.toNat = S2 := by
    have e2 : (w 0 20 - 1).toInt.toNat = n := by omega
    rw [a4, q9, v20, e2, hS2]
  have v21 : v 0 21 = w 0 21 := by
    rw [← hv, ws_col (by decide), ws_row (by decide), e6, ws_row (by decide)]
  have cn := cnt_nn S2
  have cl := cnt_le S2
  have sl : S2.length = n := by rw [hS2]; exact stk_len n
  have ce : cnt S = cnt S2 + (if (w 9 n).toInt = 13 ∨ (w 9 n).toInt = 14 ∨ rk (w 9 n).toInt = 0 then 1 else 0) := by
    rw [hSe]
    rfl
  have v9 : v 9 n = w 9 n := by rw [a4, q9]
  have hl2 : (v 0 20).toInt < (w 0 20).toInt := by
    rw [v20]
    omega
  have go : ((w 9 n).toInt = 13 ∨ (w 9 n).toInt = 14) → P (wset v 0 21 (v 0 21 - 1)) := fun hx => kP _ S2 (Rv.set (by decide)) (Kv.trans (KP.set (Or.inr (Or.inr (Or.inl rfl))))) (Lv.trans (K2.set (Or.inr (Or.inr rfl)))) (by
    refine ⟨?_, ?_⟩
    · rw [ws_row (by decide), wset_off _ _ _ _ _ (by decide)]
      exact S2v
    · rw [if_pos (by omega)] at ce
      have es2 := i_sub (x := w 0 21) (y := 1) (by omega) (by omega)
      rw [ws_hit, v21]
      omega) hlay (by rw [ws_row (by decide)]; exact hl2)
  rw [v20]
  refine ⟨vp_in_iff.mpr (by omega), ?_⟩
  have en : (w 0 20 - 1).toNatClampNeg = n := hn.symm
  rw [en, v9]
  refine ⟨fun h3 w13 e13 => e13 ▸ go (Or.inl (by rw [h3]; rfl)), fun h3 => ⟨fun h4 => kP v S2 Rv Kv Lv ⟨S2v, ?_⟩ hlay hl2, fun h4 w13 e13 => e13 ▸ go (Or.inr (by rw [h4]; rfl))⟩⟩
  have z0 := hrk.1
  have a13 : ¬ (w 9 n).toInt = 13 := fun q => h3 (i_ext q)
  have a14 : ¬ (w 9 n).toInt = 14 := fun q => h4 (i_ext q)
  rw [if_neg (by omega)] at ce
  rw [v21]
  omega
theorem mt_lays {Γ : Gx} {d : Nat} (hd : 2 ≤ d) (hG : GM Γ) {b : Nat} {lim : Int} {p1 : Int32} {w : Wd} (hl : lim ≤ b + 199 ∧ lim ≤ 2900) (hp : 1 ≤ p1.toInt) (R : RS b lim 1 w) {S : List Int} (hS : TS w S) {Q : Wd → Prop} (k : ∀ w' : Wd, RS b lim 1 w' → KP b w w' → K2 w w' → TS w' (lay p1.toInt S) → Q w') : CV Γ d M_X5_lays [.ref (gad Γ 0), .int p1] w Q := by
  obtain ⟨d, rfl⟩ : ∃ e, d = e + 1 := ⟨d - 1, by omega⟩
  refine con_X5_lays hG ?_
  unfold wp_X5_lays
  intro P c
  have key : ∀ (m : Nat) (u : Wd) (V : List Int), RS b lim 1 u → KP b w u → K2 w u → TS u V → lay p1.toInt S = lay p1.toInt V → (u 0 20).toInt.toNat < m → P u := by
    intro m
    induction m with
    | zero => exact fun _ _ _ _ _ _ _ h => absurd h (Nat.not_lt_zero _)
    | succ m ih =>
      intro u V Ru Ku Lu hV he hm
      have := Ru.2.1
      exact c u (mt_lays_step (by omega) hG hl hp Ru hV (fun q => k u Ru Ku Lu (by rw [he, q]; exact hV)) (fun v V2 Rv Kv Lv hV2 he2 hv => ih v V2 Rv (Ku.trans Kv) (Lu.trans Lv) hV2 (he.trans he2) (by have := Rv.2.1; omega)))
  exact mt_lays_step (by omega) hG hl hp R hS (fun q => k w R KP.rfl (fun _ _ _ _ => rfl) (by rw [q]; exact hS)) (fun v V2 Rv Kv Lv hV2 he2 hv => key _ v V2 Rv Kv Lv hV2 he2 (Nat.lt_succ_self _))
