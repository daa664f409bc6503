/-! the reader of the class world: what its methods keep, whatever is on the tape -/
def numR (t : Nat) (w : Wd) : Prop := 0 ≤ (w 3 0).toInt ∧ (w 3 0).toInt ≤ 160 ∧ 0 ≤ (w t 2).toInt ∧ (w t 2).toInt ≤ 160 ∧ 0 ≤ (w 3 3).toInt ∧ (w 3 3).toInt ≤ (w 3 0).toInt ∧ 0 ≤ (w 3 7).toInt ∧ (w 3 7).toInt ≤ 5
def RI (t : Nat) (w0 w : Wd) : Prop := w 3 2 = nI t ∧ (∀ c : Nat, c ≠ 3 → c ≠ t → c ≠ t + 1 → c ≠ t + 2 → w c = w0 c) ∧ w 3 0 = w0 3 0 ∧ (∀ j : Nat, j < 4 → 0 ≤ (w (t + 2) j).toInt ∧ (w (t + 2) j).toInt ≤ 160) ∧ numR t w
theorem isT.n3 {t : Nat} (h : isT t) : t ≠ 3 ∧ t + 1 ≠ 3 ∧ t + 2 ≠ 3 ∧ t < 1000 ∧ t ≠ 4 ∧ t + 1 ≠ 4 ∧ t + 2 ≠ 4 := by
  rcases h with rfl | rfl | rfl | rfl | rfl | rfl <;> decide
theorem RI.t {t : Nat} {w0 w : Wd} (ht : isT t) (i : RI t w0 w) : (w 3 2).toNatClampNeg = t := by
  rw [i.1]
  exact nI_clamp (by have := ht.n3; omega)
theorem RI.ne {t : Nat} {w0 w : Wd} (ht : isT t) (i : RI t w0 w) : ¬ w 3 2 = -1 := by
  rw [i.1]
  rcases ht with rfl | rfl | rfl | rfl | rfl | rfl <;> decide
theorem RI.num {t : Nat} {w0 w : Wd} (i : RI t w0 w) : 0 ≤ (w 3 0).toInt ∧ (w 3 0).toInt ≤ 160 ∧ 0 ≤ (w t 2).toInt ∧ (w t 2).toInt ≤ 160 ∧ 0 ≤ (w 3 3).toInt ∧ (w 3 3).toInt ≤ (w 3 0).toInt ∧ 0 ≤ (w 3 7).toInt ∧ (w 3 7).toInt ≤ 5 := i.2.2.2.2
theorem RI.step {t : Nat} {w0 w w' : Wd} (i : RI t w0 w) (h3 : w' 3 = w 3) (hc : ∀ c : Nat, c ≠ 3 → c ≠ t → c ≠ t + 1 → c ≠ t + 2 → w' c = w c) (hb : ∀ j : Nat, j < 4 → 0 ≤ (w' (t + 2) j).toInt ∧ (w' (t + 2) j).toInt ≤ 160) (hn : 0 ≤ (w' t 2).toInt ∧ (w' t 2).toInt ≤ 160) : RI t w0 w' := by
  have n := i.num
  refine ⟨by rw [h3]; exact i.1, fun c a1 a2 a3 a4 => (hc c a1 a2 a3 a4).trans (i.2.1 c a1 a2 a3 a4), by rw [h3]; exact i.2.2.1, hb, ?_⟩
  unfold numR
  rw [h3]
  omega
theorem RI.own {t : Nat} {w0 w : Wd} {s : Nat} {v : Int32} (ht : isT t) (i : RI t w0 w) (h2 : s ≠ 2) (h0 : s ≠ 0) (hn : numR t (wset w 3 s v)) : RI t w0 (wset w 3 s v) := by
  obtain ⟨a1, a2, a3, -⟩ := ht.n3
  refine ⟨?_, fun c b1 b2 b3 b4 => ?_, ?_, fun j hj => ?_, hn⟩
  · rw [ws_row (Ne.symm h2)]
    exact i.1
  · rw [← i.2.1 c b1 b2 b3 b4]
    exact wset_off w 3 s c v b1
  · rw [ws_row (Ne.symm h0)]
    exact i.2.2.1
  · rw [ws_col a3]
    exact i.2.2.2.1 j hj
theorem RI.any {t : Nat} {w0 w : Wd} {s : Nat} {v : Int32} (ht : isT t) (i : RI t w0 w) (hs : s = 4 ∨ s = 5 ∨ s = 6 ∨ s = 8) : RI t w0 (wset w 3 s v) := by
  have n := i.num
  refine RI.own ht i (by omega) (by omega) ?_
  unfold numR
  rw [ws_row (show (0 : Nat) ≠ s by omega), ws_row (show (3 : Nat) ≠ s by omega), ws_row (show (7 : Nat) ≠ s by omega), ws_col ht.n3.1]
  exact n
theorem RI.pl {t : Nat} {w0 w : Wd} {v : Int32} (ht : isT t) (i : RI t w0 w) (h0 : 0 ≤ v.toInt) (h1 : v.toInt ≤ (w 3 0).toInt) : RI t w0 (wset w 3 3 v) := by
  have n := i.num
  refine RI.own ht i (by omega) (by omega) ?_
  unfold numR
  rw [ws_row (show (0 : Nat) ≠ 3 by omega), ws_hit, ws_row (show (7 : Nat) ≠ 3 by omega), ws_col ht.n3.1]
  omega
theorem RI.op {t : Nat} {w0 w : Wd} {v : Int32} (ht : isT t) (i : RI t w0 w) (h0 : 0 ≤ v.toInt) (h1 : v.toInt ≤ 5) : RI t w0 (wset w 3 7 v) := by
  have n := i.num
  refine RI.own ht i (by omega) (by omega) ?_
  unfold numR
  rw [ws_row (show (0 : Nat) ≠ 7 by omega), ws_hit, ws_row (show (3 : Nat) ≠ 7 by omega), ws_col ht.n3.1]
  omega
/-- what a set of one of the reader's own slots leaves: in numbers -/
theorem n3_of {s : Nat} {v : Int32} {w w' : Wd} (e : w' = wset w 3 s v) : (w' 3 s).toInt = v.toInt ∧ ∀ j : Nat, j ≠ s → (w' 3 j).toInt = (w 3 j).toInt := by
  subst e
  exact ⟨by rw [ws_hit], fun j hj => by rw [ws_row hj]⟩
section JDK
variable {Γ : Gx} {d : Nat} {w : Wd} {Q : Int32 → Wd → Prop}
theorem cs_J0_coder_7d493 (hd : 1 ≤ d) (hG : GC Γ) {kx : Nat} (hk : kx < 3) (k : Q 0 w) : CI Γ d M_J0_coder_7d493 [.ref (gad Γ (100 + kx))] w Q := by
  obtain ⟨d, rfl⟩ : ∃ e, d = e + 1 := ⟨d - 1, by omega⟩
  exact con_J0_coder_7d493 hG hk k
theorem cs_J0_isLatin1_aae02 (hd : 1 ≤ d) (hG : GC Γ) {kx : Nat} (hk : kx < 3) (k : Q 1 w) : CI Γ d M_J0_isLatin1_aae02 [.ref (gad Γ (100 + kx))] w Q := by
  obtain ⟨d, rfl⟩ : ∃ e, d = e + 1 := ⟨d - 1, by omega⟩
  exact con_J0_isLatin1_aae02 hG hk k
theorem strN_shr {kx : Nat} (hk : kx < 3) : nI (strN kx) >>> ((0 : Int32) &&& 31) = nI (strN kx) := by
  rcases (show kx = 0 ∨ kx = 1 ∨ kx = 2 by omega) with rfl | rfl | rfl <;> decide
theorem cs_J0_length_8abf5 (hd : 2 ≤ d) (hG : GC Γ) {kx : Nat} (hk : kx < 3) (k : Q (nI (strN kx)) w) : CI Γ d M_J0_length_8abf5 [.ref (gad Γ (100 + kx))] w Q := by
  obtain ⟨d, rfl⟩ : ∃ e, d = e + 1 := ⟨d - 1, by omega⟩
  refine con_J0_length_8abf5 hG hk ?_
  unfold wp_J0_length_8abf5
  refine cs_J0_coder_7d493 (by omega) hG hk ?_
  rw [strN_shr hk]
  exact k
theorem cs_J3_checkIndex_8e157 (hd : 1 ≤ d) (hG : GC Γ) {p1 p2 : Int32} {p3 : Value} (hv3 : p3.category = 1) (h0 : 0 ≤ p1.toInt) (h1 : p1.toInt < p2.toInt) (k : Q p1 w) : CI Γ d M_J3_checkIndex_8e157 [.int p1, .int p2, p3] w Q := by
  obtain ⟨d, rfl⟩ : ∃ e, d = e + 1 := ⟨d - 1, by omega⟩
  refine con_J3_checkIndex_8e157 hG hv3 ?_
  unfold wp_J3_checkIndex_8e157
  refine ⟨fun h => ?_, fun _ => ⟨fun _ => k, fun h => ?_⟩⟩
  · simp only [Int32.lt_iff_toInt_lt, Int32.reduceToInt] at h
    omega
  · simp only [Int32.lt_iff_toInt_lt] at h
    omega
theorem cs_J0_checkIndex_df160 {Q : Wd → Prop} (hd : 2 ≤ d) (hG : GC Γ) {p1 p2 : Int32} (h0 : 0 ≤ p1.toInt) (h1 : p1.toInt < p2.toInt) (k : Q w) : CV Γ d M_J0_checkIndex_df160 [.int p1, .int p2] w Q := by
  obtain ⟨d, rfl⟩ : ∃ e, d = e + 1 := ⟨d - 1, by omega⟩
  refine con_J0_checkIndex_df160 hG ?_
  unfold wp_J0_checkIndex_df160
  intro v hv
  exact cs_J3_checkIndex_8e157 (by omega) hG hv h0 h1 k
theorem strB_c : ∀ kx : Nat, kx < 3 → ∀ j : Nat, j < strN kx → (((strB kx j) &&& (255 : Int32)).toUInt32 % 65536).toInt32 = strB kx j := by
  intro kx hk
  rcases (show kx = 0 ∨ kx = 1 ∨ kx = 2 by omega) with rfl | rfl | rfl <;> decide +kernel
theorem strN_lt {kx : Nat} (hk : kx < 3) : strN kx < 100 := by
  rcases (show kx = 0 ∨ kx = 1 ∨ kx = 2 by omega) with rfl | rfl | rfl <;> decide
theorem cs_J1_charAt_3b067 (hd : 3 ≤ d) (hG : GC Γ) {kx : Nat} (hk : kx < 3) {p2 : Int32} (h0 : 0 ≤ p2.toInt) (h1 : p2.toInt < strN kx) (k : Q (strB kx p2.toNatClampNeg) w) : CI Γ d M_J1_charAt_3b067 [.ref (gad Γ (110 + kx)), .int p2] w Q := by
  obtain ⟨d, rfl⟩ : ∃ e, d = e + 1 := ⟨d - 1, by omega⟩
  refine con_J1_charAt_3b067 hG hk ?_
  unfold wp_J1_charAt_3b067
  have hN := strN_lt hk
  refine cs_J0_checkIndex_df160 (by omega) hG h0 (by rw [nI_toInt (by omega)]; exact h1) ⟨vp_in_iff.mpr ⟨h0, h1⟩, pk_nc _, ?_⟩
  rw [strB_c kx hk _ (tn_lt h0 h1)]
  exact k
theorem cs_J0_charAt_5068e (hd : 4 ≤ d) (hG : GC Γ) {kx : Nat} (hk : kx < 3) {p1 : Int32} (h0 : 0 ≤ p1.toInt) (h1 : p1.toInt < strN kx) (k : Q (strB kx p1.toNatClampNeg) w) : CI Γ d M_J0_charAt_5068e [.ref (gad Γ (100 + kx)), .int p1] w Q := by
  obtain ⟨d, rfl⟩ : ∃ e, d = e + 1 := ⟨d - 1, by omega⟩
  refine con_J0_charAt_5068e hG hk ?_
  unfold wp_J0_charAt_5068e
  refine cs_J0_isLatin1_aae02 (by omega) hG hk ⟨fun h => absurd h (by decide), fun _ => ?_⟩
  refine cs_J1_charAt_3b067 (by omega) hG hk h0 h1 ⟨?_, k⟩
  rw [← strB_c kx hk _ (tn_lt h0 h1)]
  exact pk_nc _
theorem cs_J1_canEncode_9a6ad (hd : 1 ≤ d) (hG : GC Γ) {p1 : Int32} (k : ∀ r : Int32, isZ r → (¬ r = 0 ↔ 0 ≤ p1.toInt ∧ p1.toInt ≤ 255) → Q r w) : CI Γ d M_J1_canEncode_9a6ad [.int p1] w Q := by
  obtain ⟨d, rfl⟩ : ∃ e, d = e + 1 := ⟨d - 1, by omega⟩
  refine con_J1_canEncode_9a6ad hG ?_
  unfold wp_J1_canEncode_9a6ad
  refine ⟨fun h1 => k _ iz_0 (iff0 ?_), fun h1 => ⟨fun h2 => k _ iz_0 (iff0 ?_), fun h2 => k _ iz_1 (iff1 ?_)⟩⟩
  · simp only [Int32.lt_iff_toInt_lt, Int32.reduceToInt] at h1
    omega
  · simp only [Int32.lt_iff_toInt_lt, Int32.reduceToInt] at h1 h2
    omega
  · simp only [Int32.lt_iff_toInt_lt, Int32.reduceToInt] at h1 h2
    omega
theorem cs_J1_indexOfChar_4cfef (hd : 1 ≤ d) (hG : GC Γ) {kx : Nat} (hk : kx < 3) {p2 : Int32} (k : ∀ r : Int32, (¬ r.toInt < 0 ↔ ∃ j : Nat, j < strN kx ∧ strB kx j = p2.toInt8.toInt32) → Q r w) : CI Γ d M_J1_indexOfChar_4cfef [.ref (gad Γ (110 + kx)), .int p2, .int 0, .int (nI (strN kx))] w Q := by
  obtain ⟨d, rfl⟩ : ∃ e, d = e + 1 := ⟨d - 1, by omega⟩
  refine con_J1_indexOfChar_4cfef hG hk ?_
  unfold wp_J1_indexOfChar_4cfef
  intro P c
  have hN := strN_lt hk
  have hT : (nI (strN kx)).toInt = strN kx := nI_toInt (by omega)
  have key : ∀ (m n : Nat), n + m = strN kx → (∀ j : Nat, j < n → ¬ strB kx j = p2.toInt8.toInt32) → P (p2.toInt8.toInt32) (nI n) w := by
    intro m
    induction m with
    | zero =>
      intro n hn hno
      refine c _ _ _ ⟨fun _ => k _ ⟨fun h => absurd (by decide) h, ?_⟩, fun h => absurd (nI_le (by omega) (by omega)) h⟩
      rintro ⟨j, hj, he⟩
      exact absurd he (hno j (by omega))
    | succ m ih =>
      intro n hn hno
      have e : (nI n).toNatClampNeg = n := nI_clamp (by omega)
      have e2 : (nI n).toInt = n := nI_toInt (by omega)
      refine c _ _ _ ⟨fun h => absurd h (nI_ge (by omega) (by omega)), fun _ => ⟨vp_in_nI (by omega) (by omega), fun h => ?_, fun h => k _ ⟨fun _ => ⟨n, by omega, ?_⟩, fun _ => by omega⟩⟩⟩
      · rw [nI_1]
        refine ih (n + 1) (by omega) (fun j hj => ?_)
        by_cases hjn : j = n
        · subst hjn
          rw [e] at h
          exact h
        · exact hno j (by omega)
      · rw [e] at h
        exact h
  exact key (strN kx) 0 (by omega) (fun j hj => absurd hj (Nat.not_lt_zero _))
theorem cs_J1_indexOf_4cfef (hd : 2 ≤ d) (hG : GC Γ) {kx : Nat} (hk : kx < 3) (hx : 0 < strN kx) {p2 : Int32} (k : ∀ r : Int32, (0 ≤ p2.toInt → p2.toInt ≤ 255 → (¬ r.toInt < 0 ↔ ∃ j : Nat, j < strN kx ∧ strB kx j = p2.toInt8.toInt32)) → Q r w) : CI Γ d M_J1_indexOf_4cfef [.ref (gad Γ (110 + kx)), .int p2, .int 0, .int (nI (strN kx))] w Q := by
  obtain ⟨d, rfl⟩ : ∃ e, d = e + 1 := ⟨d - 1, by omega⟩
  refine con_J1_indexOf_4cfef hG hk ?_
  unfold wp_J1_indexOf_4cfef
  have hN := strN_lt hk
  refine cs_J1_canEncode_9a6ad (by omega) hG (fun r _ e => ⟨fun _ => ?_, fun h => k _ (fun a b => absurd h (e.mpr ⟨a, b⟩))⟩)
  intro v4 e4 v6 e6
  obtain rfl : v4 = 0 := by rw [e4, ite_self]
  obtain rfl : v6 = nI (strN kx) := by rw [e6, ite_self]
  exact ⟨fun _ => cs_J1_indexOfChar_4cfef (by omega) hG hk (fun r e => k r (fun _ _ => e)), fun h => absurd (nI_lt hx (by omega)) h⟩
theorem cs_J0_indexOf_7cf53 (hd : 3 ≤ d) (hG : GC Γ) {kx : Nat} (hk : kx < 3) (hx : 0 < strN kx) {p1 : Int32} (k : ∀ r : Int32, (0 ≤ p1.toInt → p1.toInt ≤ 255 → (¬ r.toInt < 0 ↔ ∃ j : Nat, j < strN kx ∧ strB kx j = p1.toInt8.toInt32)) → Q r w) : CI Γ d M_J0_indexOf_7cf53 [.ref (gad Γ (100 + kx)), .int p1, .int 0] w Q := by
  obtain ⟨d, rfl⟩ : ∃ e, d = e + 1 := ⟨d - 1, by omega⟩
  refine con_J0_indexOf_7cf53 hG hk ?_
  unfold wp_J0_indexOf_7cf53
  refine cs_J0_isLatin1_aae02 (by omega) hG hk ⟨fun h => absurd h (by decide), fun _ => ?_⟩
  refine cs_J0_length_8abf5 (by omega) hG hk ?_
  exact cs_J1_indexOf_4cfef (by omega) hG hk hx k
theorem cs_J0_indexOf_0f7a4 (hd : 4 ≤ d) (hG : GC Γ) {kx : Nat} (hk : kx < 3) (hx : 0 < strN kx) {p1 : Int32} (k : ∀ r : Int32, (0 ≤ p1.toInt → p1.toInt ≤ 255 → (¬ r.toInt < 0 ↔ ∃ j : Nat, j < strN kx ∧ strB kx j = p1.toInt8.toInt32)) → Q r w) : CI Γ d M_J0_indexOf_0f7a4 [.ref (gad Γ (100 + kx)), .int p1] w Q := by
  obtain ⟨d, rfl⟩ : ∃ e, d = e + 1 := ⟨d - 1, by omega⟩
  refine con_J0_indexOf_0f7a4 hG hk ?_
  unfold wp_J0_indexOf_0f7a4
  exact cs_J0_indexOf_7cf53 (by omega) hG hk hx k
end JDK
theorem cs_X3_empty {Γ : Gx} {d : Nat} (hd : 1 ≤ d) (hG : GC Γ) {t : Nat} (ht : isT t) {w : Wd} {Q : Wd → Prop} (k : ∀ w1 : Wd, w1 = wset w t 2 0 → Q w1) : CV Γ d M_X3_empty [.ref (gad Γ t)] w Q := by
  obtain ⟨d, rfl⟩ : ∃ e, d = e + 1 := ⟨d - 1, by omega⟩
  exact con_X3_empty hG (isT.sh hG.2.1 ht) k
theorem cs_X3_takeStep {Γ : Gx} {d : Nat} (hd : 1 ≤ d) (hG : GC Γ) {t : Nat} (ht : isT t) {p1 : Int32} {w0 w : Wd} (i : RI t w0 w) {Q : Wd → Prop} (k : ∀ w' : Wd, RI t w0 w' → w' 3 = w 3 → Q w') : CV Γ d M_X3_takeStep [.ref (gad Γ t), .int p1] w Q := by
  obtain ⟨d, rfl⟩ : ∃ e, d = e + 1 := ⟨d - 1, by omega⟩
  refine con_X3_takeStep hG (isT.sh hG.2.1 ht) ?_
  unfold wp_X3_takeStep
  have n := i.num
  obtain ⟨a1, a2, a3, -⟩ := ht.n3
  refine ⟨fun _ => k _ i rfl, fun h => ?_⟩
  simp only [Int32.le_iff_toInt_le, Int32.reduceToInt] at h
  refine ⟨vp_in_iff.mpr (by omega), fun w3 e3 w5 e5 => ?_⟩
  have b3 : w5 3 = w 3 := by rw [e5, wset_off _ _ _ _ _ (Ne.symm a1), e3, wset_off _ _ _ _ _ (Ne.symm a2)]
  refine k _ (RI.step i b3 (fun c b1 b2 b3 b4 => ?_) (fun j hj => ?_) ?_) b3
  · rw [e5, wset_off _ _ _ _ _ b2, e3, wset_off _ _ _ _ _ b3]
  · rw [e5, ws_col (by omega), e3, ws_col (by omega)]
    exact i.2.2.2.1 j hj
  · have h1 : (1 : Int32).toInt = 1 := rfl
    rw [e5, ws_hit, e3, ws_col (by omega), i_add (by omega) (by omega)]
    omega
theorem cs_X3_beginPart {Γ : Gx} {d : Nat} (hd : 1 ≤ d) (hG : GC Γ) {t : Nat} (ht : isT t) {p1 : Int32} (h0 : 0 ≤ p1.toInt) (h4 : p1.toInt < 4) {w0 w : Wd} (i : RI t w0 w) {Q : Wd → Prop} (k : ∀ w' : Wd, RI t w0 w' → w' 3 = w 3 → Q w') : CV Γ d M_X3_beginPart [.ref (gad Γ t), .int p1] w Q := by
  obtain ⟨d, rfl⟩ : ∃ e, d = e + 1 := ⟨d - 1, by omega⟩
  refine con_X3_beginPart hG (isT.sh hG.2.1 ht) ?_
  unfold wp_X3_beginPart
  have n := i.num
  obtain ⟨a1, a2, a3, -⟩ := ht.n3
  refine ⟨vp_in_iff.mpr (by omega), fun w2 e2 => ?_⟩
  have b3 : w2 3 = w 3 := by rw [e2, wset_off _ _ _ _ _ (Ne.symm a3)]
  refine k _ (RI.step i b3 (fun c b1 b2 b3 b4 => ?_) (fun j hj => ?_) ?_) b3
  · rw [e2, wset_off _ _ _ _ _ b4]
  · by_cases hj2 : j = p1.toNatClampNeg
    · subst hj2
      rw [e2, ws_hit]
      omega
    · rw [e2, ws_row hj2]
      exact i.2.2.2.1 j hj
  · rw [e2, ws_col (by omega)]
    omega

set_option maxRecDepth 20000 in
theorem cs_X1_fail {Γ : Gx} {d : Nat} (hd : 1 ≤ d) (hG : GC Γ) {t : Nat} (ht : isT t) {w0 : Wd} {w : Wd} (i : RI t w0 w) {Q : Wd → Prop} (k : ∀ (w' : Wd), RI t w0 w' → ((w' 3 7).toInt = (w 3 7).toInt) → ((w 3 8).toInt = -1 ∨ (w' 3 8).toInt = (w 3 8).toInt) → ((w 3 8).toInt = -1 → (w' 3 8).toInt = (w 3 4).toInt) → Q w') : CV Γ d M_X1_fail [.ref (gad Γ 3)] w Q := by
  obtain ⟨d, rfl⟩ : ∃ e, d = e + 1 := ⟨d - 1, by omega⟩
  refine con_X1_fail hG ?_
  unfold wp_X1_fail
  have m0 := i.num
  obtain ⟨o0, ho0⟩ : ∃ z : Int, z = (w 3 7).toInt := ⟨_, rfl⟩
  obtain ⟨f0, hf0⟩ : ∃ z : Int, z = (w 3 8).toInt := ⟨_, rfl⟩
  refine ⟨fun h209 => ?_, fun h210 => ?_⟩
  · simp only [Int32.lt_iff_toInt_lt, Int32.le_iff_toInt_le, ← Int32.toInt_inj, Int32.reduceToInt] at h209
    intro w2 ew2
    have : (1 : Int32).toInt = 1 := rfl
    have nw2 := n3_of ew2
    have := nw2.2 0 (by decide)
    have := nw2.2 3 (by decide)
    have := nw2.2 4 (by decide)
    have := nw2.2 7 (by decide)
    have := nw2.2 8 (by decide)
    have := nw2.1
    have iw2 : RI t w0 w2 := ew2 ▸ RI.any ht i (by omega)
    have mw2 := iw2.num
    exact k _ iw2 (by omega) (by omega) (by omega)
  · simp only [Int32.lt_iff_toInt_lt, Int32.le_iff_toInt_le, ← Int32.toInt_inj, Int32.reduceToInt] at h210
    intro w4 ew4
    have nw4 := n3_of ew4
    have := nw4.2 0 (by decide)
    have := nw4.2 3 (by decide)
    have := nw4.2 4 (by decide)
    have := nw4.2 5 (by decide)
    have := nw4.2 7 (by decide)
    have := nw4.1
    have iw4 : RI t w0 w4 := ew4 ▸ RI.any ht i (by omega)
    have mw4 := iw4.num
    intro w6 ew6
    have : (1 : Int32).toInt = 1 := rfl
    have nw6 := n3_of ew6
    have := nw6.2 0 (by decide)
    have := nw6.2 3 (by decide)
    have := nw6.2 4 (by decide)
    have := nw6.2 7 (by decide)
    have := nw6.2 8 (by decide)
    have := nw6.1
    have iw6 : RI t w0 w6 := ew6 ▸ RI.any ht iw4 (by omega)
    have mw6 := iw6.num
    exact k _ iw6 (by omega) (by omega) (by omega)

theorem cs_X1_wordNumber {Γ : Gx} {d : Nat} (hd : 5 ≤ d) (hG : GC Γ) {w : Wd} (hs : 0 ≤ (w 3 4).toInt ∧ (w 3 4).toInt ≤ 160) (hp : (w 3 3).toInt ≤ 160) {Q : Int32 → Wd → Prop} (k : ∀ r : Int32, Q r w) : CI Γ d M_X1_wordNumber [.ref (gad Γ 3)] w Q := by
  obtain ⟨d, rfl⟩ : ∃ e, d = e + 1 := ⟨d - 1, by omega⟩
  refine con_X1_wordNumber hG ?_
  unfold wp_X1_wordNumber
  intro P c
  have hN : (nI (strN 1)).toInt = 61 := rfl
  have hN2 : strN 1 = 61 := rfl
  have h1 : (1 : Int32).toInt = 1 := rfl
  have key : ∀ (m : Nat) (l1 l2 l3 l4 : Int32), 0 ≤ l4.toInt → l4.toInt ≤ 61 → 0 ≤ l2.toInt → l2.toInt ≤ 160 + l4.toInt → (61 - l4.toInt).toNat < m → P l1 l2 l3 l4 w := by
    intro m
    induction m with
    | zero => intro l1 l2 l3 l4 _ _ _ _ h; omega
    | succ m ih =>
      intro l1 l2 l3 l4 a1 a2 a3 a4 h
      refine c _ _ _ _ _ ?_
      refine cs_J0_length_8abf5 (by omega) hG (by decide) ⟨fun _ => k _, fun q => ?_⟩
      rw [Int32.le_iff_toInt_le, hN] at q
      have e4 := i_add (x := l4) (y := 1) (by omega) (by omega)
      have e2 := i_add (x := l2) (y := 1) (by omega) (by omega)
      refine cs_J0_charAt_5068e (by omega) hG (by decide) (by omega) (by omega) ?_
      refine ⟨fun _ => ⟨fun _ => ih _ _ _ _ (by omega) (by omega) (by omega) (by omega) (by omega), fun _ => ⟨fun _ => ih _ _ _ _ (by omega) (by omega) (by omega) (by omega) (by omega), fun _ => k _⟩⟩, fun _ => ⟨fun _ => ih _ _ _ _ (by omega) (by omega) (by omega) (by omega) (by omega), fun _ => ⟨fun _ => ih _ _ _ _ (by omega) (by omega) (by omega) (by omega) (by omega), fun q2 => ?_⟩⟩⟩
      rw [Int32.le_iff_toInt_le] at q2
      exact ⟨vp_in_iff.mpr (by omega), fun _ => ih _ _ _ _ (by omega) (by omega) (by omega) (by omega) (by omega), fun _ => ih _ _ _ _ (by omega) (by omega) (by omega) (by omega) (by omega)⟩
  have h0 : (0 : Int32).toInt = 0 := rfl
  exact key _ _ _ _ _ (by omega) (by omega) (by omega) (by omega) (Nat.lt_succ_self _)

set_option maxRecDepth 20000 in
theorem cs_X1_readNumeral {Γ : Gx} {d : Nat} (hd : 2 ≤ d) (hG : GC Γ) {t : Nat} (ht : isT t) {w0 : Wd} {w : Wd} (i : RI t w0 w) (hs : (0 ≤ (w 3 4).toInt ∧ (w 3 4).toInt ≤ 160)) {Q : Wd → Prop} (k : ∀ (w' : Wd), RI t w0 w' → ((w' 3 7).toInt = (w 3 7).toInt) → ((w' 3 8).toInt = (w 3 8).toInt) → Q w') : CV Γ d M_X1_readNumeral [.ref (gad Γ 3)] w Q := by
  obtain ⟨d, rfl⟩ : ∃ e, d = e + 1 := ⟨d - 1, by omega⟩
  refine con_X1_readNumeral hG ?_
  unfold wp_X1_readNumeral
  have m0 := i.num
  obtain ⟨o0, ho0⟩ : ∃ z : Int, z = (w 3 7).toInt := ⟨_, rfl⟩
  obtain ⟨f0, hf0⟩ : ∃ z : Int, z = (w 3 8).toInt := ⟨_, rfl⟩
  intro P_5
  intro P_72
  intro cP_5
  intro cP_72
  have key : ∀ m : Nat, (∀ (w : Wd), RI t w0 w → ((w 3 7).toInt = o0 ∧ (w 3 8).toInt = f0) → ((0 ≤ (w 3 4).toInt ∧ (w 3 4).toInt ≤ 160)) → (((w 3 0).toInt - (w 3 3).toInt).toNat + 1) < m → P_5 w) ∧ (∀ (w : Wd), RI t w0 w → ((w 3 7).toInt = o0 ∧ (w 3 8).toInt = f0) → ((0 ≤ (w 3 4).toInt ∧ (w 3 4).toInt ≤ 160)) → (0) < m → P_72 w) := by
    intro m
    induction m with
    | zero => exact ⟨fun _ _ _ _ h => absurd h (Nat.not_lt_zero _), fun _ _ _ _ h => absurd h (Nat.not_lt_zero _)⟩
    | succ m ih =>
      refine ⟨?_, ?_⟩
      · intro w i v0 v1 hm
        refine cP_5 _ ?_
        have m1 := i.num
        refine ⟨fun h211 => ?_, fun h212 => ?_⟩
        · simp only [Int32.lt_iff_toInt_lt, Int32.le_iff_toInt_le, ← Int32.toInt_inj, Int32.reduceToInt] at h211
          exact ih.2 _ i (by first | omega | rfl | assumption) (by first | omega | rfl | assumption) (by omega)
        · simp only [Int32.lt_iff_toInt_lt, Int32.le_iff_toInt_le, ← Int32.toInt_inj, Int32.reduceToInt] at h212
          have := i_lo (w 3 3)
          have := i_hi (w 3 3)
          refine ⟨vp_in_iff.mpr (by omega), ?_⟩
          refine cs_X4_isIn (by omega) hG (lo := 48) (hi := 57) rfl rfl (fun r5 z213 y214 => ?_)
          refine ⟨fun h215 => ?_, fun h216 => ?_⟩
          · have h215 : ¬ _ := fun q => y214.mpr q h215
            exact ih.2 _ i (by first | omega | rfl | assumption) (by first | omega | rfl | assumption) (by omega)
          · have h216 := y214.mp h216
            refine ⟨vp_in_iff.mpr (by omega), ?_⟩
            intro w9 ew9
            have nw9 := n3_of ew9
            have := nw9.2 0 (by decide)
            have := nw9.2 3 (by decide)
            have := nw9.2 4 (by decide)
            have := nw9.2 5 (by decide)
            have := nw9.2 7 (by decide)
            have := nw9.2 8 (by decide)
            have := nw9.1
            have iw9 : RI t w0 w9 := ew9 ▸ RI.any ht i (by omega)
            have mw9 := iw9.num
            intro w11 ew11
            have := i_lo (w9 3 3)
            have := i_hi (w9 3 3)
            have : (1 : Int32).toInt = 1 := rfl
            have := i_add (x := (w9 3 3)) (y := (1 : Int32)) (by omega) (by omega)
            have nw11 := n3_of ew11
            have := nw11.2 0 (by decide)
            have := nw11.2 4 (by decide)
            have := nw11.2 5 (by decide)
            have := nw11.2 7 (by decide)
            have := nw11.2 8 (by decide)
            have := nw11.1
            have iw11 : RI t w0 w11 := ew11 ▸ RI.pl ht iw9 (by omega) (by omega)
            have mw11 := iw11.num
            exact ih.1 _ iw11 (by first | omega | rfl | assumption) (by first | omega | rfl | assumption) (by omega)
      · intro w i v0 v1 hm
        refine cP_72 _ ?_
        have m1 := i.num
        refine ⟨fun h217 => ?_, fun h218 => ?_⟩
        · have := i_lo (w 3 3)
          have := i_hi (w 3 3)
          have := i_lo (w 3 4)
          have := i_hi (w 3 4)
          have := i_sub (x := (w 3 3)) (y := (w 3 4)) (by omega) (by omega)
          simp only [Int32.lt_iff_toInt_lt, Int32.le_iff_toInt_le, ← Int32.toInt_inj, Int32.reduceToInt] at h217
          intro w14 ew14
          have : (1 : Int32).toInt = 1 := rfl
          have nw14 := n3_of ew14
          have := nw14.2 0 (by decide)
          have := nw14.2 3 (by decide)
          have := nw14.2 4 (by decide)
          have := nw14.2 7 (by decide)
          have := nw14.2 8 (by decide)
          have := nw14.1
          have iw14 : RI t w0 w14 := ew14 ▸ RI.any ht i (by omega)
          have mw14 := iw14.num
          exact k _ iw14 (by omega) (by omega)
        · have := i_lo (w 3 3)
          have := i_hi (w 3 3)
          have := i_lo (w 3 4)
          have := i_hi (w 3 4)
          have := i_sub (x := (w 3 3)) (y := (w 3 4)) (by omega) (by omega)
          simp only [Int32.lt_iff_toInt_lt, Int32.le_iff_toInt_le, ← Int32.toInt_inj, Int32.reduceToInt] at h218
          intro w16 ew16
          have : (2 : Int32).toInt = 2 := rfl
          have nw16 := n3_of ew16
          have := nw16.2 0 (by decide)
          have := nw16.2 3 (by decide)
          have := nw16.2 4 (by decide)
          have := nw16.2 7 (by decide)
          have := nw16.2 8 (by decide)
          have := nw16.1
          have iw16 : RI t w0 w16 := ew16 ▸ RI.any ht i (by omega)
          have mw16 := iw16.num
          exact k _ iw16 (by omega) (by omega)
  intro w1 ew1
  have : (0 : Int32).toInt = 0 := rfl
  have nw1 := n3_of ew1
  have := nw1.2 0 (by decide)
  have := nw1.2 3 (by decide)
  have := nw1.2 4 (by decide)
  have := nw1.2 5 (by decide)
  have := nw1.2 7 (by decide)
  have := nw1.2 8 (by decide)
  have := nw1.1
  have iw1 : RI t w0 w1 := ew1 ▸ RI.any ht i (by omega)
  have mw1 := iw1.num
  exact (key _).1 _ iw1 (by first | omega | rfl | assumption) (by first | omega | rfl | assumption) (Nat.lt_succ_self _)

set_option maxRecDepth 20000 in
theorem cs_X1_readWord {Γ : Gx} {d : Nat} (hd : 6 ≤ d) (hG : GC Γ) {t : Nat} (ht : isT t) {w0 : Wd} {w : Wd} (i : RI t w0 w) (hs : (0 ≤ (w 3 4).toInt ∧ (w 3 4).toInt ≤ 160)) {Q : Wd → Prop} (k : ∀ (w' : Wd), RI t w0 w' → ((w' 3 7).toInt = (w 3 7).toInt) → ((w' 3 8).toInt = (w 3 8).toInt) → Q w') : CV Γ d M_X1_readWord [.ref (gad Γ 3)] w Q := by
  obtain ⟨d, rfl⟩ : ∃ e, d = e + 1 := ⟨d - 1, by omega⟩
  refine con_X1_readWord hG ?_
  unfold wp_X1_readWord
  have m0 := i.num
  obtain ⟨o0, ho0⟩ : ∃ z : Int, z = (w 3 7).toInt := ⟨_, rfl⟩
  obtain ⟨f0, hf0⟩ : ∃ z : Int, z = (w 3 8).toInt := ⟨_, rfl⟩
  intro P_0
  intro P_43
  intro cP_0
  intro cP_43
  have key : ∀ m : Nat, (∀ (w : Wd), RI t w0 w → ((w 3 7).toInt = o0 ∧ (w 3 8).toInt = f0) → ((0 ≤ (w 3 4).toInt ∧ (w 3 4).toInt ≤ 160)) → (((w 3 0).toInt - (w 3 3).toInt).toNat + 1) < m → P_0 w) ∧ (∀ (w : Wd), RI t w0 w → ((w 3 7).toInt = o0 ∧ (w 3 8).toInt = f0) → ((0 ≤ (w 3 4).toInt ∧ (w 3 4).toInt ≤ 160)) → (0) < m → P_43 w) := by
    intro m
    induction m with
    | zero => exact ⟨fun _ _ _ _ h => absurd h (Nat.not_lt_zero _), fun _ _ _ _ h => absurd h (Nat.not_lt_zero _)⟩
    | succ m ih =>
      refine ⟨?_, ?_⟩
      · intro w i v0 v1 hm
        refine cP_0 _ ?_
        have m1 := i.num
        refine ⟨fun h219 => ?_, fun h220 => ?_⟩
        · simp only [Int32.lt_iff_toInt_lt, Int32.le_iff_toInt_le, ← Int32.toInt_inj, Int32.reduceToInt] at h219
          exact ih.2 _ i (by first | omega | rfl | assumption) (by first | omega | rfl | assumption) (by omega)
        · simp only [Int32.lt_iff_toInt_lt, Int32.le_iff_toInt_le, ← Int32.toInt_inj, Int32.reduceToInt] at h220
          have := i_lo (w 3 3)
          have := i_hi (w 3 3)
          refine ⟨vp_in_iff.mpr (by omega), ?_⟩
          refine cs_X4_isIn (by omega) hG (lo := 97) (hi := 122) rfl rfl (fun r10 z221 y222 => ?_)
          refine ⟨fun h223 => ?_, fun h224 => ?_⟩
          · have h223 : ¬ _ := fun q => y222.mpr q h223
            exact ih.2 _ i (by first | omega | rfl | assumption) (by first | omega | rfl | assumption) (by omega)
          · have h224 := y222.mp h224
            intro w13 ew13
            have : (1 : Int32).toInt = 1 := rfl
            have := i_add (x := (w 3 3)) (y := (1 : Int32)) (by omega) (by omega)
            have nw13 := n3_of ew13
            have := nw13.2 0 (by decide)
            have := nw13.2 4 (by decide)
            have := nw13.2 5 (by decide)
            have := nw13.2 7 (by decide)
            have := nw13.2 8 (by decide)
            have := nw13.1
            have iw13 : RI t w0 w13 := ew13 ▸ RI.pl ht i (by omega) (by omega)
            have mw13 := iw13.num
            exact ih.1 _ iw13 (by first | omega | rfl | assumption) (by first | omega | rfl | assumption) (by omega)
      · intro w i v0 v1 hm
        refine cP_43 _ ?_
        have m1 := i.num
        refine cs_X1_wordNumber (by omega) hG (by omega) (by omega) (fun r15 => ?_)
        intro w17 ew17
        have nw17 := n3_of ew17
        have := nw17.2 0 (by decide)
        have := nw17.2 3 (by decide)
        have := nw17.2 4 (by decide)
        have := nw17.2 5 (by decide)
        have := nw17.2 7 (by decide)
        have := nw17.2 8 (by decide)
        have := nw17.1
        have iw17 : RI t w0 w17 := ew17 ▸ RI.any ht i (by omega)
        have mw17 := iw17.num
        refine ⟨fun h225 => ?_, fun h226 => ?_⟩
        · simp only [Int32.lt_iff_toInt_lt, Int32.le_iff_toInt_le, ← Int32.toInt_inj, Int32.reduceToInt] at h225
          refine ⟨fun h227 => ?_, fun h228 => ?_⟩
          · simp only [Int32.lt_iff_toInt_lt, Int32.le_iff_toInt_le, ← Int32.toInt_inj, Int32.reduceToInt] at h227
            intro w21 ew21
            have nw21 := n3_of ew21
            have := nw21.2 0 (by decide)
            have := nw21.2 3 (by decide)
            have := nw21.2 4 (by decide)
            have := nw21.2 7 (by decide)
            have := nw21.2 8 (by decide)
            have := nw21.1
            have iw21 : RI t w0 w21 := ew21 ▸ RI.any ht iw17 (by omega)
            have mw21 := iw21.num
            exact k _ iw21 (by omega) (by omega)
          · simp only [Int32.lt_iff_toInt_lt, Int32.le_iff_toInt_le, ← Int32.toInt_inj, Int32.reduceToInt] at h228
            intro w23 ew23
            have : (3 : Int32).toInt = 3 := rfl
            have nw23 := n3_of ew23
            have := nw23.2 0 (by decide)
            have := nw23.2 3 (by decide)
            have := nw23.2 4 (by decide)
            have := nw23.2 7 (by decide)
            have := nw23.2 8 (by decide)
            have := nw23.1
            have iw23 : RI t w0 w23 := ew23 ▸ RI.any ht iw17 (by omega)
            have mw23 := iw23.num
            exact k _ iw23 (by omega) (by omega)
        · simp only [Int32.lt_iff_toInt_lt, Int32.le_iff_toInt_le, ← Int32.toInt_inj, Int32.reduceToInt] at h226
          intro w25 ew25
          have : (1 : Int32).toInt = 1 := rfl
          have nw25 := n3_of ew25
          have := nw25.2 0 (by decide)
          have := nw25.2 3 (by decide)
          have := nw25.2 4 (by decide)
          have := nw25.2 7 (by decide)
          have := nw25.2 8 (by decide)
          have := nw25.1
          have iw25 : RI t w0 w25 := ew25 ▸ RI.any ht iw17 (by omega)
          have mw25 := iw25.num
          exact k _ iw25 (by omega) (by omega)
  refine ⟨fun h229 => ?_, fun h230 => ?_⟩
  · simp only [Int32.lt_iff_toInt_lt, Int32.le_iff_toInt_le, ← Int32.toInt_inj, Int32.reduceToInt] at h229
    exact (key _).2 _ i (by first | omega | rfl | assumption) (by first | omega | rfl | assumption) (Nat.lt_succ_self _)
  · simp only [Int32.lt_iff_toInt_lt, Int32.le_iff_toInt_le, ← Int32.toInt_inj, Int32.reduceToInt] at h230
    have := i_lo (w 3 3)
    have := i_hi (w 3 3)
    refine ⟨vp_in_iff.mpr (by omega), ?_⟩
    refine cs_X4_isIn (by omega) hG (lo := 97) (hi := 122) rfl rfl (fun r3 z231 y232 => ?_)
    refine ⟨fun h233 => ?_, fun h234 => ?_⟩
    · have h233 : ¬ _ := fun q => y232.mpr q h233
      exact (key _).2 _ i (by first | omega | rfl | assumption) (by first | omega | rfl | assumption) (Nat.lt_succ_self _)
    · have h234 := y232.mp h234
      intro w6 ew6
      have : (1 : Int32).toInt = 1 := rfl
      have := i_add (x := (w 3 3)) (y := (1 : Int32)) (by omega) (by omega)
      have nw6 := n3_of ew6
      have := nw6.2 0 (by decide)
      have := nw6.2 4 (by decide)
      have := nw6.2 5 (by decide)
      have := nw6.2 7 (by decide)
      have := nw6.2 8 (by decide)
      have := nw6.1
      have iw6 : RI t w0 w6 := ew6 ▸ RI.pl ht i (by omega) (by omega)
      have mw6 := iw6.num
      exact (key _).1 _ iw6 (by first | omega | rfl | assumption) (by first | omega | rfl | assumption) (Nat.lt_succ_self _)

set_option maxRecDepth 20000 in
theorem cs_X1_readToken {Γ : Gx} {d : Nat} (hd : 7 ≤ d) (hG : GC Γ) {t : Nat} (ht : isT t) {w0 : Wd} {w : Wd} (i : RI t w0 w) {Q : Wd → Prop} (k : ∀ (w' : Wd), RI t w0 w' → ((w' 3 7).toInt = (w 3 7).toInt) → ((w' 3 8).toInt = (w 3 8).toInt) → ((w 3 8).toInt = -1 → (w 3 0).toInt ≤ (w 3 3).toInt → (w' 3 5).toInt = 0 ∧ (w' 3 4).toInt = (w 3 3).toInt) → Q w') : CV Γ d M_X1_readToken [.ref (gad Γ 3)] w Q := by
  obtain ⟨d, rfl⟩ : ∃ e, d = e + 1 := ⟨d - 1, by omega⟩
  refine con_X1_readToken hG ?_
  unfold wp_X1_readToken
  have m0 := i.num
  obtain ⟨o0, ho0⟩ : ∃ z : Int, z = (w 3 7).toInt := ⟨_, rfl⟩
  obtain ⟨f0, hf0⟩ : ∃ z : Int, z = (w 3 8).toInt := ⟨_, rfl⟩
  obtain ⟨s0, hs0⟩ : ∃ z : Int, z = (w 3 0).toInt := ⟨_, rfl⟩
  obtain ⟨p0, hp0⟩ : ∃ z : Int, z = (w 3 3).toInt := ⟨_, rfl⟩
  intro P_9
  intro P_61
  intro cP_9
  intro cP_61
  have key : ∀ m : Nat, (∀ (w : Wd), RI t w0 w → ((w 3 7).toInt = o0 ∧ (w 3 8).toInt = f0) → ((w 3 0).toInt = s0 ∧ (s0 ≤ p0 → (w 3 3).toInt = p0)) → (((w 3 0).toInt - (w 3 3).toInt).toNat + 1) < m → P_9 w) ∧ (∀ (w : Wd), RI t w0 w → ((w 3 7).toInt = o0 ∧ (w 3 8).toInt = f0) → ((w 3 0).toInt = s0 ∧ (s0 ≤ p0 → (w 3 3).toInt = p0)) → (0) < m → P_61 w) := by
    intro m
    induction m with
    | zero => exact ⟨fun _ _ _ _ h => absurd h (Nat.not_lt_zero _), fun _ _ _ _ h => absurd h (Nat.not_lt_zero _)⟩
    | succ m ih =>
      refine ⟨?_, ?_⟩
      · intro w i v0 v1 hm
        refine cP_9 _ ?_
        have m1 := i.num
        refine ⟨fun h235 => ?_, fun h236 => ?_⟩
        · simp only [Int32.lt_iff_toInt_lt, Int32.le_iff_toInt_le, ← Int32.toInt_inj, Int32.reduceToInt] at h235
          exact ih.2 _ i (by first | omega | rfl | assumption) (by first | omega | rfl | assumption) (by omega)
        · simp only [Int32.lt_iff_toInt_lt, Int32.le_iff_toInt_le, ← Int32.toInt_inj, Int32.reduceToInt] at h236
          have := i_lo (w 3 3)
          have := i_hi (w 3 3)
          refine ⟨vp_in_iff.mpr (by omega), ?_⟩
          refine ⟨fun h237 => ?_, fun h238 => ?_⟩
          · simp only [Int32.lt_iff_toInt_lt, Int32.le_iff_toInt_le, ← Int32.toInt_inj, Int32.reduceToInt] at h237
            intro w5 ew5
            have : (1 : Int32).toInt = 1 := rfl
            have := i_add (x := (w 3 3)) (y := (1 : Int32)) (by omega) (by omega)
            have nw5 := n3_of ew5
            have := nw5.2 0 (by decide)
            have := nw5.2 4 (by decide)
            have := nw5.2 5 (by decide)
            have := nw5.2 7 (by decide)
            have := nw5.2 8 (by decide)
            have := nw5.1
            have iw5 : RI t w0 w5 := ew5 ▸ RI.pl ht i (by omega) (by omega)
            have mw5 := iw5.num
            exact ih.1 _ iw5 (by first | omega | rfl | assumption) (by first | omega | rfl | assumption) (by omega)
          · simp only [Int32.lt_iff_toInt_lt, Int32.le_iff_toInt_le, ← Int32.toInt_inj, Int32.reduceToInt] at h238
            refine ⟨fun h239 => ?_, fun h240 => ?_⟩
            · simp only [Int32.lt_iff_toInt_lt, Int32.le_iff_toInt_le, ← Int32.toInt_inj, Int32.reduceToInt] at h239
              exact ih.2 _ i (by first | omega | rfl | assumption) (by first | omega | rfl | assumption) (by omega)
            · simp only [Int32.lt_iff_toInt_lt, Int32.le_iff_toInt_le, ← Int32.toInt_inj, Int32.reduceToInt] at h240
              intro w8 ew8
              have : (1 : Int32).toInt = 1 := rfl
              have := i_add (x := (w 3 3)) (y := (1 : Int32)) (by omega) (by omega)
              have nw8 := n3_of ew8
              have := nw8.2 0 (by decide)
              have := nw8.2 4 (by decide)
              have := nw8.2 5 (by decide)
              have := nw8.2 7 (by decide)
              have := nw8.2 8 (by decide)
              have := nw8.1
              have iw8 : RI t w0 w8 := ew8 ▸ RI.pl ht i (by omega) (by omega)
              have mw8 := iw8.num
              exact ih.1 _ iw8 (by first | omega | rfl | assumption) (by first | omega | rfl | assumption) (by omega)
      · intro w i v0 v1 hm
        refine cP_61 _ ?_
        have m1 := i.num
        intro w10 ew10
        have nw10 := n3_of ew10
        have := nw10.2 0 (by decide)
        have := nw10.2 3 (by decide)
        have := nw10.2 5 (by decide)
        have := nw10.2 7 (by decide)
        have := nw10.2 8 (by decide)
        have := nw10.1
        have iw10 : RI t w0 w10 := ew10 ▸ RI.any ht i (by omega)
        have mw10 := iw10.num
        refine ⟨fun h241 => ?_, fun h242 => ?_⟩
        · simp only [Int32.lt_iff_toInt_lt, Int32.le_iff_toInt_le, ← Int32.toInt_inj, Int32.reduceToInt] at h241
          have := i_lo (w10 3 3)
          have := i_hi (w10 3 3)
          refine ⟨vp_in_iff.mpr (by omega), ?_⟩
          refine cs_X4_isIn (by omega) hG (lo := 97) (hi := 122) rfl rfl (fun r14 z243 y244 => ?_)
          refine ⟨fun h245 => ?_, fun h246 => ?_⟩
          · have h245 : ¬ _ := fun q => y244.mpr q h245
            refine ⟨vp_in_iff.mpr (by omega), ?_⟩
            refine cs_X4_isIn (by omega) hG (lo := 48) (hi := 57) rfl rfl (fun r18 z247 y248 => ?_)
            refine ⟨fun h249 => ?_, fun h250 => ?_⟩
            · have h249 : ¬ _ := fun q => y248.mpr q h249
              refine ⟨vp_in_iff.mpr (by omega), ?_⟩
              refine cs_J0_indexOf_0f7a4 (by omega) hG (by decide) (by decide) (fun r22 yr22 => ?_)
              clear yr22
              refine ⟨fun h251 => ?_, fun h252 => ?_⟩
              · simp only [Int32.lt_iff_toInt_lt, Int32.le_iff_toInt_le, ← Int32.toInt_inj, Int32.reduceToInt] at h251
                intro w25 ew25
                have : (1 : Int32).toInt = 1 := rfl
                have nw25 := n3_of ew25
                have := nw25.2 0 (by decide)
                have := nw25.2 3 (by decide)
                have := nw25.2 4 (by decide)
                have := nw25.2 7 (by decide)
                have := nw25.2 8 (by decide)
                have := nw25.1
                have iw25 : RI t w0 w25 := ew25 ▸ RI.any ht iw10 (by omega)
                have mw25 := iw25.num
                intro w27 ew27
                have := i_lo (w25 3 3)
                have := i_hi (w25 3 3)
                have := i_add (x := (w25 3 3)) (y := (1 : Int32)) (by omega) (by omega)
                have nw27 := n3_of ew27
                have := nw27.2 0 (by decide)
                have := nw27.2 4 (by decide)
                have := nw27.2 5 (by decide)
                have := nw27.2 7 (by decide)
                have := nw27.2 8 (by decide)
                have := nw27.1
                have iw27 : RI t w0 w27 := ew27 ▸ RI.pl ht iw25 (by omega) (by omega)
                have mw27 := iw27.num
                exact k _ iw27 (by omega) (by omega) (by omega)
              · simp only [Int32.lt_iff_toInt_lt, Int32.le_iff_toInt_le, ← Int32.toInt_inj, Int32.reduceToInt] at h252
                refine ⟨vp_in_iff.mpr (by omega), ?_⟩
                intro w30 ew30
                have nw30 := n3_of ew30
                have := nw30.2 0 (by decide)
                have := nw30.2 3 (by decide)
                have := nw30.2 4 (by decide)
                have := nw30.2 7 (by decide)
                have := nw30.2 8 (by decide)
                have := nw30.1
                have iw30 : RI t w0 w30 := ew30 ▸ RI.any ht iw10 (by omega)
                have mw30 := iw30.num
                intro w32 ew32
                have := i_lo (w30 3 3)
                have := i_hi (w30 3 3)
                have : (1 : Int32).toInt = 1 := rfl
                have := i_add (x := (w30 3 3)) (y := (1 : Int32)) (by omega) (by omega)
                have nw32 := n3_of ew32
                have := nw32.2 0 (by decide)
                have := nw32.2 4 (by decide)
                have := nw32.2 5 (by decide)
                have := nw32.2 7 (by decide)
                have := nw32.2 8 (by decide)
                have := nw32.1
                have iw32 : RI t w0 w32 := ew32 ▸ RI.pl ht iw30 (by omega) (by omega)
                have mw32 := iw32.num
                exact k _ iw32 (by omega) (by omega) (by omega)
            · have h250 := y248.mp h250
              refine cs_X1_readNumeral (by omega) hG ht iw10 (by omega) (fun w35 iw35 y253 y254 => ?_)
              have mw35 := iw35.num
              exact k _ iw35 (by omega) (by omega) (by omega)
          · have h246 := y244.mp h246
            refine cs_X1_readWord (by omega) hG ht iw10 (by omega) (fun w37 iw37 y255 y256 => ?_)
            have mw37 := iw37.num
            exact k _ iw37 (by omega) (by omega) (by omega)
        · simp only [Int32.lt_iff_toInt_lt, Int32.le_iff_toInt_le, ← Int32.toInt_inj, Int32.reduceToInt] at h242
          intro w38 ew38
          have : (0 : Int32).toInt = 0 := rfl
          have nw38 := n3_of ew38
          have := nw38.2 0 (by decide)
          have := nw38.2 3 (by decide)
          have := nw38.2 4 (by decide)
          have := nw38.2 7 (by decide)
          have := nw38.2 8 (by decide)
          have := nw38.1
          have iw38 : RI t w0 w38 := ew38 ▸ RI.any ht iw10 (by omega)
          have mw38 := iw38.num
          exact k _ iw38 (by omega) (by omega) (by omega)
  refine ⟨fun h257 => ?_, fun h258 => ?_⟩
  · simp only [Int32.lt_iff_toInt_lt, Int32.le_iff_toInt_le, ← Int32.toInt_inj, Int32.reduceToInt] at h257
    exact (key _).1 _ i (by first | omega | rfl | assumption) (by first | omega | rfl | assumption) (Nat.lt_succ_self _)
  · simp only [Int32.lt_iff_toInt_lt, Int32.le_iff_toInt_le, ← Int32.toInt_inj, Int32.reduceToInt] at h258
    exact k _ i (by omega) (by omega) (by omega)

set_option maxRecDepth 20000 in
theorem cs_X1_pass {Γ : Gx} {d : Nat} (hd : 8 ≤ d) (hG : GC Γ) {p1 : Int32} {t : Nat} (ht : isT t) {w0 : Wd} {w : Wd} (i : RI t w0 w) {Q : Wd → Prop} (k : ∀ (w' : Wd), RI t w0 w' → ((w' 3 7).toInt = (w 3 7).toInt) → ((w 3 8).toInt = -1 ∨ (w' 3 8).toInt = (w 3 8).toInt) → ((w 3 8).toInt = -1 → ¬ (w 3 5).toInt = p1.toInt → (w' 3 8).toInt = (w 3 4).toInt) → Q w') : CV Γ d M_X1_pass [.ref (gad Γ 3), .int p1] w Q := by
  obtain ⟨d, rfl⟩ : ∃ e, d = e + 1 := ⟨d - 1, by omega⟩
  refine con_X1_pass hG ?_
  unfold wp_X1_pass
  have m0 := i.num
  obtain ⟨o0, ho0⟩ : ∃ z : Int, z = (w 3 7).toInt := ⟨_, rfl⟩
  obtain ⟨f0, hf0⟩ : ∃ z : Int, z = (w 3 8).toInt := ⟨_, rfl⟩
  refine ⟨fun h259 => ?_, fun h260 => ?_⟩
  · simp only [Int32.lt_iff_toInt_lt, Int32.le_iff_toInt_le, ← Int32.toInt_inj, Int32.reduceToInt] at h259
    refine cs_X1_fail (by omega) hG ht i (fun w3 iw3 y261 y262 y263 => ?_)
    have mw3 := iw3.num
    exact k _ iw3 (by omega) (by omega) (by omega)
  · simp only [Int32.lt_iff_toInt_lt, Int32.le_iff_toInt_le, ← Int32.toInt_inj, Int32.reduceToInt] at h260
    refine cs_X1_readToken (by omega) hG ht i (fun w5 iw5 y264 y265 y266 => ?_)
    have mw5 := iw5.num
    exact k _ iw5 (by omega) (by omega) (by omega)

set_option maxRecDepth 20000 in
theorem cs_X1_opens {Γ : Gx} {d : Nat} (hd : 8 ≤ d) (hG : GC Γ) {t : Nat} (ht : isT t) {w0 : Wd} {w : Wd} (i : RI t w0 w) {Q : Int32 → Wd → Prop} (k : ∀ (r : Int32) (w' : Wd), RI t w0 w' → (¬ r = 0 ↔ ((w' 3 7).toInt = (w 3 7).toInt + 1 ∧ (w 3 7).toInt < 5)) → ((w' 3 7).toInt = (w 3 7).toInt ∨ (w' 3 7).toInt = (w 3 7).toInt + 1) → ((w 3 8).toInt = -1 ∨ (w' 3 8).toInt = (w 3 8).toInt) → Q r w') : CI Γ d M_X1_opens [.ref (gad Γ 3)] w Q := by
  obtain ⟨d, rfl⟩ : ∃ e, d = e + 1 := ⟨d - 1, by omega⟩
  refine con_X1_opens hG ?_
  unfold wp_X1_opens
  have m0 := i.num
  obtain ⟨o0, ho0⟩ : ∃ z : Int, z = (w 3 7).toInt := ⟨_, rfl⟩
  obtain ⟨f0, hf0⟩ : ∃ z : Int, z = (w 3 8).toInt := ⟨_, rfl⟩
  refine ⟨fun h267 => ?_, fun h268 => ?_⟩
  · simp only [Int32.lt_iff_toInt_lt, Int32.le_iff_toInt_le, ← Int32.toInt_inj, Int32.reduceToInt] at h267
    intro w2 ew2
    have := i_lo (w 3 7)
    have := i_hi (w 3 7)
    have : (1 : Int32).toInt = 1 := rfl
    have := i_add (x := (w 3 7)) (y := (1 : Int32)) (by omega) (by omega)
    have nw2 := n3_of ew2
    have := nw2.2 0 (by decide)
    have := nw2.2 3 (by decide)
    have := nw2.2 4 (by decide)
    have := nw2.2 5 (by decide)
    have := nw2.2 8 (by decide)
    have := nw2.1
    have iw2 : RI t w0 w2 := ew2 ▸ RI.op ht i (by omega) (by omega)
    have mw2 := iw2.num
    refine cs_X1_readToken (by omega) hG ht iw2 (fun w5 iw5 y269 y270 y271 => ?_)
    have mw5 := iw5.num
    exact k _ _ iw5 (iff1 (by omega)) (by omega) (by omega)
  · simp only [Int32.lt_iff_toInt_lt, Int32.le_iff_toInt_le, ← Int32.toInt_inj, Int32.reduceToInt] at h268
    refine cs_X1_fail (by omega) hG ht i (fun w7 iw7 y272 y273 y274 => ?_)
    have mw7 := iw7.num
    exact k _ _ iw7 (iff0 (by omega)) (by omega) (by omega)

/-- a reading method, at most n more brackets (nots, minuses) deep, wants e frames -/
def RdOK (Γ : Gx) (M : Mth) (n e : Nat) : Prop := ∀ (d : Nat), e ≤ d → ∀ (t : Nat) (w0 w : Wd), isT t → RI t w0 w → 5 - (w 3 7).toInt ≤ n → ∀ Q : Wd → Prop, (∀ w' : Wd, RI t w0 w' → (w' 3 7).toInt = (w 3 7).toInt → ((w 3 8).toInt = -1 ∨ (w' 3 8).toInt = (w 3 8).toInt) → Q w') → CV Γ d M [.ref (gad Γ 3)] w Q

set_option maxRecDepth 20000 in
theorem rd_readTerm {Γ : Gx} (hG : GC Γ) {n e : Nat} (he : 9 ≤ e) (h1 : RdOK Γ M_X1_readOne n e) : RdOK Γ M_X1_readTerm n (e + 1) := by
  intro d hd t w0 w ht i hn Q k
  obtain ⟨d, rfl⟩ : ∃ e, d = e + 1 := ⟨d - 1, by omega⟩
  refine con_X1_readTerm hG ?_
  unfold wp_X1_readTerm
  have m0 := i.num
  obtain ⟨o0, ho0⟩ : ∃ z : Int, z = (w 3 7).toInt := ⟨_, rfl⟩
  obtain ⟨f0, hf0⟩ : ∃ z : Int, z = (w 3 8).toInt := ⟨_, rfl⟩
  intro P_6
  intro cP_6
  have key : ∀ m : Nat, (∀ (l1 : Int32) (w : Wd), RI t w0 w → ((w 3 7).toInt = o0 ∧ (f0 = -1 ∨ (w 3 8).toInt = f0)) → (5 - (w 3 7).toInt ≤ n) → (0 ≤ l1.toInt ∧ l1.toInt ≤ 160) → ((161 - l1.toInt).toNat) < m → P_6 l1 w) := by
    intro m
    induction m with
    | zero => exact fun _ _ _ _ _ _ h => absurd h (Nat.not_lt_zero _)
    | succ m ih =>
      intro l1 w i v0 v1 v2 hm
      refine cP_6 _ _ ?_
      have m1 := i.num
      refine ⟨fun h275 => ?_, fun h276 => ?_⟩
      · simp only [Int32.lt_iff_toInt_lt, Int32.le_iff_toInt_le, ← Int32.toInt_inj, Int32.reduceToInt] at h275
        exact k _ i (by omega) (by omega)
      · simp only [Int32.lt_iff_toInt_lt, Int32.le_iff_toInt_le, ← Int32.toInt_inj, Int32.reduceToInt] at h276
        refine ⟨fun h277 => ?_, fun h278 => ?_⟩
        · simp only [Int32.lt_iff_toInt_lt, Int32.le_iff_toInt_le, ← Int32.toInt_inj, Int32.reduceToInt] at h277
          exact k _ i (by omega) (by omega)
        · simp only [Int32.lt_iff_toInt_lt, Int32.le_iff_toInt_le, ← Int32.toInt_inj, Int32.reduceToInt] at h278
          refine cs_X1_readToken (by omega) hG ht i (fun w6 iw6 y279 y280 y281 => ?_)
          have mw6 := iw6.num
          refine h1 _ (by omega) t w0 _ ht iw6 (by omega) _ (fun w8 iw8 yow8 yfw8 => ?_)
          have mw8 := iw8.num
          refine ⟨RI.ne ht iw8, ?_⟩
          rw [RI.t ht iw8]
          refine ⟨isT.sh hG.2.1 ht, ?_⟩
          refine cs_X3_takeStep (by omega) hG ht iw8 (fun w12 iw12 xw12 => ?_)
          have mw12 := iw12.num
          have sw12 : ∀ j : Nat, (w12 3 j).toInt = (w8 3 j).toInt := fun j => by rw [xw12]
          have := sw12 0
          have := sw12 3
          have := sw12 4
          have := sw12 5
          have := sw12 7
          have := sw12 8
          have := i_lo l1
          have := i_hi l1
          have : (1 : Int32).toInt = 1 := rfl
          have := i_add (x := l1) (y := (1 : Int32)) (by omega) (by omega)
          exact ih _ _ iw12 (by first | omega | rfl | assumption) (by first | omega | rfl | assumption) (by first | omega | rfl | assumption) (by omega)
  refine h1 _ (by omega) t w0 _ ht i (by omega) _ (fun w2 iw2 yow2 yfw2 => ?_)
  have mw2 := iw2.num
  have : (0 : Int32).toInt = 0 := rfl
  exact (key _) _ _ iw2 (by first | omega | rfl | assumption) (by first | omega | rfl | assumption) (by first | omega | rfl | assumption) (Nat.lt_succ_self _)

set_option maxRecDepth 20000 in
theorem rd_readSum {Γ : Gx} (hG : GC Γ) {n e : Nat} (he : 9 ≤ e) (h1 : RdOK Γ M_X1_readTerm n e) : RdOK Γ M_X1_readSum n (e + 1) := by
  intro d hd t w0 w ht i hn Q k
  obtain ⟨d, rfl⟩ : ∃ e, d = e + 1 := ⟨d - 1, by omega⟩
  refine con_X1_readSum hG ?_
  unfold wp_X1_readSum
  have m0 := i.num
  obtain ⟨o0, ho0⟩ : ∃ z : Int, z = (w 3 7).toInt := ⟨_, rfl⟩
  obtain ⟨f0, hf0⟩ : ∃ z : Int, z = (w 3 8).toInt := ⟨_, rfl⟩
  intro P_6
  intro P_31
  intro cP_6
  intro cP_31
  have key : ∀ m : Nat, (∀ (l1 : Int32) (w : Wd), RI t w0 w → ((w 3 7).toInt = o0 ∧ (f0 = -1 ∨ (w 3 8).toInt = f0)) → (5 - (w 3 7).toInt ≤ n) → (0 ≤ l1.toInt ∧ l1.toInt ≤ 160) → ((161 - l1.toInt).toNat * 2 + 1) < m → P_6 l1 w) ∧ (∀ (l1 : Int32) (w : Wd), RI t w0 w → ((w 3 7).toInt = o0 ∧ (f0 = -1 ∨ (w 3 8).toInt = f0)) → (5 - (w 3 7).toInt ≤ n) → (0 ≤ l1.toInt ∧ l1.toInt < 160) → ((161 - l1.toInt).toNat * 2) < m → P_31 l1 w) := by
    intro m
    induction m with
    | zero => exact ⟨fun _ _ _ _ _ _ h => absurd h (Nat.not_lt_zero _), fun _ _ _ _ _ _ h => absurd h (Nat.not_lt_zero _)⟩
    | succ m ih =>
      refine ⟨?_, ?_⟩
      · intro l1 w i v0 v1 v2 hm
        refine cP_6 _ _ ?_
        have m1 := i.num
        refine ⟨fun h282 => ?_, fun h283 => ?_⟩
        · simp only [Int32.lt_iff_toInt_lt, Int32.le_iff_toInt_le, ← Int32.toInt_inj, Int32.reduceToInt] at h282
          exact k _ i (by omega) (by omega)
        · simp only [Int32.lt_iff_toInt_lt, Int32.le_iff_toInt_le, ← Int32.toInt_inj, Int32.reduceToInt] at h283
          refine ⟨fun h284 => ?_, fun h285 => ?_⟩
          · simp only [Int32.lt_iff_toInt_lt, Int32.le_iff_toInt_le, ← Int32.toInt_inj, Int32.reduceToInt] at h284
            exact ih.2 _ _ i (by first | omega | rfl | assumption) (by first | omega | rfl | assumption) (by first | omega | rfl | assumption) (by omega)
          · simp only [Int32.lt_iff_toInt_lt, Int32.le_iff_toInt_le, ← Int32.toInt_inj, Int32.reduceToInt] at h285
            refine ⟨fun h286 => ?_, fun h287 => ?_⟩
            · simp only [Int32.lt_iff_toInt_lt, Int32.le_iff_toInt_le, ← Int32.toInt_inj, Int32.reduceToInt] at h286
              exact k _ i (by omega) (by omega)
            · simp only [Int32.lt_iff_toInt_lt, Int32.le_iff_toInt_le, ← Int32.toInt_inj, Int32.reduceToInt] at h287
              exact ih.2 _ _ i (by first | omega | rfl | assumption) (by first | omega | rfl | assumption) (by first | omega | rfl | assumption) (by omega)
      · intro l1 w i v0 v1 v2 hm
        refine cP_31 _ _ ?_
        have m1 := i.num
        refine ⟨fun h288 => ?_, fun h289 => ?_⟩
        · simp only [Int32.lt_iff_toInt_lt, Int32.le_iff_toInt_le, ← Int32.toInt_inj, Int32.reduceToInt] at h288
          refine cs_X1_readToken (by omega) hG ht i (fun w8 iw8 y290 y291 y292 => ?_)
          have mw8 := iw8.num
          refine h1 _ (by omega) t w0 _ ht iw8 (by omega) _ (fun w10 iw10 yow10 yfw10 => ?_)
          have mw10 := iw10.num
          refine ⟨RI.ne ht iw10, ?_⟩
          rw [RI.t ht iw10]
          refine ⟨isT.sh hG.2.1 ht, ?_⟩
          refine cs_X3_takeStep (by omega) hG ht iw10 (fun w14 iw14 xw14 => ?_)
          have mw14 := iw14.num
          have sw14 : ∀ j : Nat, (w14 3 j).toInt = (w10 3 j).toInt := fun j => by rw [xw14]
          have := sw14 0
          have := sw14 3
          have := sw14 4
          have := sw14 5
          have := sw14 7
          have := sw14 8
          have := i_lo l1
          have := i_hi l1
          have : (1 : Int32).toInt = 1 := rfl
          have := i_add (x := l1) (y := (1 : Int32)) (by omega) (by omega)
          exact ih.1 _ _ iw14 (by first | omega | rfl | assumption) (by first | omega | rfl | assumption) (by first | omega | rfl | assumption) (by omega)
        · simp only [Int32.lt_iff_toInt_lt, Int32.le_iff_toInt_le, ← Int32.toInt_inj, Int32.reduceToInt] at h289
          refine cs_X1_readToken (by omega) hG ht i (fun w16 iw16 y293 y294 y295 => ?_)
          have mw16 := iw16.num
          refine h1 _ (by omega) t w0 _ ht iw16 (by omega) _ (fun w18 iw18 yow18 yfw18 => ?_)
          have mw18 := iw18.num
          refine ⟨RI.ne ht iw18, ?_⟩
          rw [RI.t ht iw18]
          refine ⟨isT.sh hG.2.1 ht, ?_⟩
          refine cs_X3_takeStep (by omega) hG ht iw18 (fun w22 iw22 xw22 => ?_)
          have mw22 := iw22.num
          have sw22 : ∀ j : Nat, (w22 3 j).toInt = (w18 3 j).toInt := fun j => by rw [xw22]
          have := sw22 0
          have := sw22 3
          have := sw22 4
          have := sw22 5
          have := sw22 7
          have := sw22 8
          have := i_lo l1
          have := i_hi l1
          have : (1 : Int32).toInt = 1 := rfl
          have := i_add (x := l1) (y := (1 : Int32)) (by omega) (by omega)
          exact ih.1 _ _ iw22 (by first | omega | rfl | assumption) (by first | omega | rfl | assumption) (by first | omega | rfl | assumption) (by omega)
  refine h1 _ (by omega) t w0 _ ht i (by omega) _ (fun w2 iw2 yow2 yfw2 => ?_)
  have mw2 := iw2.num
  have : (0 : Int32).toInt = 0 := rfl
  exact (key _).1 _ _ iw2 (by first | omega | rfl | assumption) (by first | omega | rfl | assumption) (by first | omega | rfl | assumption) (Nat.lt_succ_self _)

set_option maxRecDepth 20000 in
theorem rd_readCompared {Γ : Gx} (hG : GC Γ) {n e : Nat} (he : 9 ≤ e) (h1 : RdOK Γ M_X1_readSum n e) : RdOK Γ M_X1_readCompared n (e + 1) := by
  intro d hd t w0 w ht i hn Q k
  obtain ⟨d, rfl⟩ : ∃ e, d = e + 1 := ⟨d - 1, by omega⟩
  refine con_X1_readCompared hG ?_
  unfold wp_X1_readCompared
  have m0 := i.num
  obtain ⟨o0, ho0⟩ : ∃ z : Int, z = (w 3 7).toInt := ⟨_, rfl⟩
  obtain ⟨f0, hf0⟩ : ∃ z : Int, z = (w 3 8).toInt := ⟨_, rfl⟩
  intro P_22
  intro cP_22
  have key : ∀ m : Nat, (∀ (w : Wd), RI t w0 w → ((w 3 7).toInt = o0 ∧ (f0 = -1 ∨ (w 3 8).toInt = f0)) → (5 - (w 3 7).toInt ≤ n) → (0) < m → P_22 w) := by
    intro m
    induction m with
    | zero => exact fun _ _ _ _ h => absurd h (Nat.not_lt_zero _)
    | succ m ih =>
      intro w i v0 v1 hm
      refine cP_22 _ ?_
      have m1 := i.num
      refine ⟨fun h296 => ?_, fun h297 => ?_⟩
      · simp only [Int32.lt_iff_toInt_lt, Int32.le_iff_toInt_le, ← Int32.toInt_inj, Int32.reduceToInt] at h296
        refine cs_X1_readToken (by omega) hG ht i (fun w7 iw7 y298 y299 y300 => ?_)
        have mw7 := iw7.num
        refine h1 _ (by omega) t w0 _ ht iw7 (by omega) _ (fun w9 iw9 yow9 yfw9 => ?_)
        have mw9 := iw9.num
        refine ⟨RI.ne ht iw9, ?_⟩
        rw [RI.t ht iw9]
        refine ⟨isT.sh hG.2.1 ht, ?_⟩
        refine cs_X3_takeStep (by omega) hG ht iw9 (fun w13 iw13 xw13 => ?_)
        have mw13 := iw13.num
        have sw13 : ∀ j : Nat, (w13 3 j).toInt = (w9 3 j).toInt := fun j => by rw [xw13]
        have := sw13 0
        have := sw13 3
        have := sw13 4
        have := sw13 5
        have := sw13 7
        have := sw13 8
        exact k _ iw13 (by omega) (by omega)
      · simp only [Int32.lt_iff_toInt_lt, Int32.le_iff_toInt_le, ← Int32.toInt_inj, Int32.reduceToInt] at h297
        refine cs_X1_readToken (by omega) hG ht i (fun w15 iw15 y301 y302 y303 => ?_)
        have mw15 := iw15.num
        refine h1 _ (by omega) t w0 _ ht iw15 (by omega) _ (fun w17 iw17 yow17 yfw17 => ?_)
        have mw17 := iw17.num
        refine ⟨RI.ne ht iw17, ?_⟩
        rw [RI.t ht iw17]
        refine ⟨isT.sh hG.2.1 ht, ?_⟩
        refine cs_X3_takeStep (by omega) hG ht iw17 (fun w21 iw21 xw21 => ?_)
        have mw21 := iw21.num
        have sw21 : ∀ j : Nat, (w21 3 j).toInt = (w17 3 j).toInt := fun j => by rw [xw21]
        have := sw21 0
        have := sw21 3
        have := sw21 4
        have := sw21 5
        have := sw21 7
        have := sw21 8
        exact k _ iw21 (by omega) (by omega)
  refine h1 _ (by omega) t w0 _ ht i (by omega) _ (fun w2 iw2 yow2 yfw2 => ?_)
  have mw2 := iw2.num
  refine ⟨fun h304 => ?_, fun h305 => ?_⟩
  · simp only [Int32.lt_iff_toInt_lt, Int32.le_iff_toInt_le, ← Int32.toInt_inj, Int32.reduceToInt] at h304
    exact (key _) _ iw2 (by first | omega | rfl | assumption) (by first | omega | rfl | assumption) (Nat.lt_succ_self _)
  · simp only [Int32.lt_iff_toInt_lt, Int32.le_iff_toInt_le, ← Int32.toInt_inj, Int32.reduceToInt] at h305
    refine ⟨fun h306 => ?_, fun h307 => ?_⟩
    · simp only [Int32.lt_iff_toInt_lt, Int32.le_iff_toInt_le, ← Int32.toInt_inj, Int32.reduceToInt] at h306
      exact k _ iw2 (by omega) (by omega)
    · simp only [Int32.lt_iff_toInt_lt, Int32.le_iff_toInt_le, ← Int32.toInt_inj, Int32.reduceToInt] at h307
      exact (key _) _ iw2 (by first | omega | rfl | assumption) (by first | omega | rfl | assumption) (Nat.lt_succ_self _)

set_option maxRecDepth 20000 in
theorem rd_readNot {Γ : Gx} (hG : GC Γ) {n e : Nat} (he : 9 ≤ e) (h1 : RdOK Γ M_X1_readCompared n e) (h2 : ∀ n2, n = n2 + 1 → RdOK Γ M_X1_readNot n2 e) : RdOK Γ M_X1_readNot n (e + 1) := by
  intro d hd t w0 w ht i hn Q k
  obtain ⟨d, rfl⟩ : ∃ e, d = e + 1 := ⟨d - 1, by omega⟩
  refine con_X1_readNot hG ?_
  unfold wp_X1_readNot
  have m0 := i.num
  obtain ⟨o0, ho0⟩ : ∃ z : Int, z = (w 3 7).toInt := ⟨_, rfl⟩
  obtain ⟨f0, hf0⟩ : ∃ z : Int, z = (w 3 8).toInt := ⟨_, rfl⟩
  refine ⟨fun h308 => ?_, fun h309 => ?_⟩
  · simp only [Int32.lt_iff_toInt_lt, Int32.le_iff_toInt_le, ← Int32.toInt_inj, Int32.reduceToInt] at h308
    refine cs_X1_opens (by omega) hG ht i (fun r2 w3 iw3 y310 y311 y312 => ?_)
    have mw3 := iw3.num
    refine ⟨fun h313 => ?_, fun h314 => ?_⟩
    · have h313 : ¬ _ := fun q => y310.mpr q h313
      exact k _ iw3 (by omega) (by omega)
    · have h314 := y310.mp h314
      refine (h2 (n - 1) (by omega)) _ (by omega) t w0 _ ht iw3 (by omega) _ (fun w6 iw6 yow6 yfw6 => ?_)
      have mw6 := iw6.num
      refine ⟨RI.ne ht iw6, ?_⟩
      rw [RI.t ht iw6]
      refine ⟨isT.sh hG.2.1 ht, ?_⟩
      refine cs_X3_takeStep (by omega) hG ht iw6 (fun w10 iw10 xw10 => ?_)
      have mw10 := iw10.num
      have sw10 : ∀ j : Nat, (w10 3 j).toInt = (w6 3 j).toInt := fun j => by rw [xw10]
      have := sw10 0
      have := sw10 3
      have := sw10 4
      have := sw10 5
      have := sw10 7
      have := sw10 8
      intro w11 ew11
      have := i_lo (w10 3 7)
      have := i_hi (w10 3 7)
      have : (1 : Int32).toInt = 1 := rfl
      have := i_sub (x := (w10 3 7)) (y := (1 : Int32)) (by omega) (by omega)
      have nw11 := n3_of ew11
      have := nw11.2 0 (by decide)
      have := nw11.2 3 (by decide)
      have := nw11.2 4 (by decide)
      have := nw11.2 5 (by decide)
      have := nw11.2 8 (by decide)
      have := nw11.1
      have iw11 : RI t w0 w11 := ew11 ▸ RI.op ht iw10 (by omega) (by omega)
      have mw11 := iw11.num
      exact k _ iw11 (by omega) (by omega)
  · simp only [Int32.lt_iff_toInt_lt, Int32.le_iff_toInt_le, ← Int32.toInt_inj, Int32.reduceToInt] at h309
    refine h1 _ (by omega) t w0 _ ht i (by omega) _ (fun w14 iw14 yow14 yfw14 => ?_)
    have mw14 := iw14.num
    exact k _ iw14 (by omega) (by omega)

set_option maxRecDepth 20000 in
theorem rd_readAnd {Γ : Gx} (hG : GC Γ) {n e : Nat} (he : 9 ≤ e) (h1 : RdOK Γ M_X1_readNot n e) : RdOK Γ M_X1_readAnd n (e + 1) := by
  intro d hd t w0 w ht i hn Q k
  obtain ⟨d, rfl⟩ : ∃ e, d = e + 1 := ⟨d - 1, by omega⟩
  refine con_X1_readAnd hG ?_
  unfold wp_X1_readAnd
  have m0 := i.num
  obtain ⟨o0, ho0⟩ : ∃ z : Int, z = (w 3 7).toInt := ⟨_, rfl⟩
  obtain ⟨f0, hf0⟩ : ∃ z : Int, z = (w 3 8).toInt := ⟨_, rfl⟩
  intro P_6
  intro cP_6
  have key : ∀ m : Nat, (∀ (l1 : Int32) (w : Wd), RI t w0 w → ((w 3 7).toInt = o0 ∧ (f0 = -1 ∨ (w 3 8).toInt = f0)) → (5 - (w 3 7).toInt ≤ n) → (0 ≤ l1.toInt ∧ l1.toInt ≤ 160) → ((161 - l1.toInt).toNat) < m → P_6 l1 w) := by
    intro m
    induction m with
    | zero => exact fun _ _ _ _ _ _ h => absurd h (Nat.not_lt_zero _)
    | succ m ih =>
      intro l1 w i v0 v1 v2 hm
      refine cP_6 _ _ ?_
      have m1 := i.num
      refine ⟨fun h315 => ?_, fun h316 => ?_⟩
      · simp only [Int32.lt_iff_toInt_lt, Int32.le_iff_toInt_le, ← Int32.toInt_inj, Int32.reduceToInt] at h315
        exact k _ i (by omega) (by omega)
      · simp only [Int32.lt_iff_toInt_lt, Int32.le_iff_toInt_le, ← Int32.toInt_inj, Int32.reduceToInt] at h316
        refine ⟨fun h317 => ?_, fun h318 => ?_⟩
        · simp only [Int32.lt_iff_toInt_lt, Int32.le_iff_toInt_le, ← Int32.toInt_inj, Int32.reduceToInt] at h317
          exact k _ i (by omega) (by omega)
        · simp only [Int32.lt_iff_toInt_lt, Int32.le_iff_toInt_le, ← Int32.toInt_inj, Int32.reduceToInt] at h318
          refine cs_X1_readToken (by omega) hG ht i (fun w6 iw6 y319 y320 y321 => ?_)
          have mw6 := iw6.num
          refine h1 _ (by omega) t w0 _ ht iw6 (by omega) _ (fun w8 iw8 yow8 yfw8 => ?_)
          have mw8 := iw8.num
          refine ⟨RI.ne ht iw8, ?_⟩
          rw [RI.t ht iw8]
          refine ⟨isT.sh hG.2.1 ht, ?_⟩
          refine cs_X3_takeStep (by omega) hG ht iw8 (fun w12 iw12 xw12 => ?_)
          have mw12 := iw12.num
          have sw12 : ∀ j : Nat, (w12 3 j).toInt = (w8 3 j).toInt := fun j => by rw [xw12]
          have := sw12 0
          have := sw12 3
          have := sw12 4
          have := sw12 5
          have := sw12 7
          have := sw12 8
          have := i_lo l1
          have := i_hi l1
          have : (1 : Int32).toInt = 1 := rfl
          have := i_add (x := l1) (y := (1 : Int32)) (by omega) (by omega)
          exact ih _ _ iw12 (by first | omega | rfl | assumption) (by first | omega | rfl | assumption) (by first | omega | rfl | assumption) (by omega)
  refine h1 _ (by omega) t w0 _ ht i (by omega) _ (fun w2 iw2 yow2 yfw2 => ?_)
  have mw2 := iw2.num
  have : (0 : Int32).toInt = 0 := rfl
  exact (key _) _ _ iw2 (by first | omega | rfl | assumption) (by first | omega | rfl | assumption) (by first | omega | rfl | assumption) (Nat.lt_succ_self _)

set_option maxRecDepth 20000 in
theorem rd_readOr {Γ : Gx} (hG : GC Γ) {n e : Nat} (he : 9 ≤ e) (h1 : RdOK Γ M_X1_readAnd n e) : RdOK Γ M_X1_readOr n (e + 1) := by
  intro d hd t w0 w ht i hn Q k
  obtain ⟨d, rfl⟩ : ∃ e, d = e + 1 := ⟨d - 1, by omega⟩
  refine con_X1_readOr hG ?_
  unfold wp_X1_readOr
  have m0 := i.num
  obtain ⟨o0, ho0⟩ : ∃ z : Int, z = (w 3 7).toInt := ⟨_, rfl⟩
  obtain ⟨f0, hf0⟩ : ∃ z : Int, z = (w 3 8).toInt := ⟨_, rfl⟩
  intro P_6
  intro cP_6
  have key : ∀ m : Nat, (∀ (l1 : Int32) (w : Wd), RI t w0 w → ((w 3 7).toInt = o0 ∧ (f0 = -1 ∨ (w 3 8).toInt = f0)) → (5 - (w 3 7).toInt ≤ n) → (0 ≤ l1.toInt ∧ l1.toInt ≤ 160) → ((161 - l1.toInt).toNat) < m → P_6 l1 w) := by
    intro m
    induction m with
    | zero => exact fun _ _ _ _ _ _ h => absurd h (Nat.not_lt_zero _)
    | succ m ih =>
      intro l1 w i v0 v1 v2 hm
      refine cP_6 _ _ ?_
      have m1 := i.num
      refine ⟨fun h322 => ?_, fun h323 => ?_⟩
      · simp only [Int32.lt_iff_toInt_lt, Int32.le_iff_toInt_le, ← Int32.toInt_inj, Int32.reduceToInt] at h322
        exact k _ i (by omega) (by omega)
      · simp only [Int32.lt_iff_toInt_lt, Int32.le_iff_toInt_le, ← Int32.toInt_inj, Int32.reduceToInt] at h323
        refine ⟨fun h324 => ?_, fun h325 => ?_⟩
        · simp only [Int32.lt_iff_toInt_lt, Int32.le_iff_toInt_le, ← Int32.toInt_inj, Int32.reduceToInt] at h324
          exact k _ i (by omega) (by omega)
        · simp only [Int32.lt_iff_toInt_lt, Int32.le_iff_toInt_le, ← Int32.toInt_inj, Int32.reduceToInt] at h325
          refine cs_X1_readToken (by omega) hG ht i (fun w6 iw6 y326 y327 y328 => ?_)
          have mw6 := iw6.num
          refine h1 _ (by omega) t w0 _ ht iw6 (by omega) _ (fun w8 iw8 yow8 yfw8 => ?_)
          have mw8 := iw8.num
          refine ⟨RI.ne ht iw8, ?_⟩
          rw [RI.t ht iw8]
          refine ⟨isT.sh hG.2.1 ht, ?_⟩
          refine cs_X3_takeStep (by omega) hG ht iw8 (fun w12 iw12 xw12 => ?_)
          have mw12 := iw12.num
          have sw12 : ∀ j : Nat, (w12 3 j).toInt = (w8 3 j).toInt := fun j => by rw [xw12]
          have := sw12 0
          have := sw12 3
          have := sw12 4
          have := sw12 5
          have := sw12 7
          have := sw12 8
          have := i_lo l1
          have := i_hi l1
          have : (1 : Int32).toInt = 1 := rfl
          have := i_add (x := l1) (y := (1 : Int32)) (by omega) (by omega)
          exact ih _ _ iw12 (by first | omega | rfl | assumption) (by first | omega | rfl | assumption) (by first | omega | rfl | assumption) (by omega)
  refine h1 _ (by omega) t w0 _ ht i (by omega) _ (fun w2 iw2 yow2 yfw2 => ?_)
  have mw2 := iw2.num
  have : (0 : Int32).toInt = 0 := rfl
  exact (key _) _ _ iw2 (by first | omega | rfl | assumption) (by first | omega | rfl | assumption) (by first | omega | rfl | assumption) (Nat.lt_succ_self _)

set_option maxRecDepth 20000 in
theorem rd_readOne {Γ : Gx} (hG : GC Γ) {n e : Nat} (he : 9 ≤ e) (h1 : ∀ n2, n = n2 + 1 → RdOK Γ M_X1_readOr n2 e ∧ RdOK Γ M_X1_readOne n2 e) : RdOK Γ M_X1_readOne n (e + 1) := by
  intro d hd t w0 w ht i hn Q k
  obtain ⟨d, rfl⟩ : ∃ e, d = e + 1 := ⟨d - 1, by omega⟩
  refine con_X1_readOne hG ?_
  unfold wp_X1_readOne
  have m0 := i.num
  obtain ⟨o0, ho0⟩ : ∃ z : Int, z = (w 3 7).toInt := ⟨_, rfl⟩
  obtain ⟨f0, hf0⟩ : ∃ z : Int, z = (w 3 8).toInt := ⟨_, rfl⟩
  refine ⟨fun h329 => ?_, fun h330 => ?_, fun h331 => ?_, fun h332 => ?_, fun h333 => ?_⟩
  · simp only [Int32.lt_iff_toInt_lt, Int32.le_iff_toInt_le, ← Int32.toInt_inj, Int32.reduceToInt] at h329
    refine ⟨RI.ne ht i, ?_⟩
    rw [RI.t ht i]
    refine ⟨isT.sh hG.2.1 ht, ?_⟩
    refine cs_X3_takeStep (by omega) hG ht i (fun w4 iw4 xw4 => ?_)
    have mw4 := iw4.num
    have sw4 : ∀ j : Nat, (w4 3 j).toInt = (w 3 j).toInt := fun j => by rw [xw4]
    have := sw4 0
    have := sw4 3
    have := sw4 4
    have := sw4 5
    have := sw4 7
    have := sw4 8
    refine cs_X1_readToken (by omega) hG ht iw4 (fun w6 iw6 y334 y335 y336 => ?_)
    have mw6 := iw6.num
    exact k _ iw6 (by omega) (by omega)
  · simp only [Int32.lt_iff_toInt_lt, Int32.le_iff_toInt_le, ← Int32.toInt_inj, Int32.reduceToInt] at h330
    refine ⟨RI.ne ht i, ?_⟩
    rw [RI.t ht i]
    refine ⟨isT.sh hG.2.1 ht, ?_⟩
    refine cs_X3_takeStep (by omega) hG ht i (fun w10 iw10 xw10 => ?_)
    have mw10 := iw10.num
    have sw10 : ∀ j : Nat, (w10 3 j).toInt = (w 3 j).toInt := fun j => by rw [xw10]
    have := sw10 0
    have := sw10 3
    have := sw10 4
    have := sw10 5
    have := sw10 7
    have := sw10 8
    refine cs_X1_readToken (by omega) hG ht iw10 (fun w12 iw12 y337 y338 y339 => ?_)
    have mw12 := iw12.num
    exact k _ iw12 (by omega) (by omega)
  · simp only [Int32.lt_iff_toInt_lt, Int32.le_iff_toInt_le, ← Int32.toInt_inj, Int32.reduceToInt] at h331
    refine cs_X1_opens (by omega) hG ht i (fun r13 w14 iw14 y340 y341 y342 => ?_)
    have mw14 := iw14.num
    refine ⟨fun h343 => ?_, fun h344 => ?_⟩
    · have h343 : ¬ _ := fun q => y340.mpr q h343
      exact k _ iw14 (by omega) (by omega)
    · have h344 := y340.mp h344
      refine (h1 (n - 1) (by omega)).2 _ (by omega) t w0 _ ht iw14 (by omega) _ (fun w17 iw17 yow17 yfw17 => ?_)
      have mw17 := iw17.num
      refine ⟨RI.ne ht iw17, ?_⟩
      rw [RI.t ht iw17]
      refine ⟨isT.sh hG.2.1 ht, ?_⟩
      refine cs_X3_takeStep (by omega) hG ht iw17 (fun w21 iw21 xw21 => ?_)
      have mw21 := iw21.num
      have sw21 : ∀ j : Nat, (w21 3 j).toInt = (w17 3 j).toInt := fun j => by rw [xw21]
      have := sw21 0
      have := sw21 3
      have := sw21 4
      have := sw21 5
      have := sw21 7
      have := sw21 8
      intro w22 ew22
      have := i_lo (w21 3 7)
      have := i_hi (w21 3 7)
      have : (1 : Int32).toInt = 1 := rfl
      have := i_sub (x := (w21 3 7)) (y := (1 : Int32)) (by omega) (by omega)
      have nw22 := n3_of ew22
      have := nw22.2 0 (by decide)
      have := nw22.2 3 (by decide)
      have := nw22.2 4 (by decide)
      have := nw22.2 5 (by decide)
      have := nw22.2 8 (by decide)
      have := nw22.1
      have iw22 : RI t w0 w22 := ew22 ▸ RI.op ht iw21 (by omega) (by omega)
      have mw22 := iw22.num
      exact k _ iw22 (by omega) (by omega)
  · simp only [Int32.lt_iff_toInt_lt, Int32.le_iff_toInt_le, ← Int32.toInt_inj, Int32.reduceToInt] at h332
    refine cs_X1_opens (by omega) hG ht i (fun r24 w25 iw25 y345 y346 y347 => ?_)
    have mw25 := iw25.num
    refine ⟨fun h348 => ?_, fun h349 => ?_⟩
    · have h348 : ¬ _ := fun q => y345.mpr q h348
      exact k _ iw25 (by omega) (by omega)
    · have h349 := y345.mp h349
      refine (h1 (n - 1) (by omega)).1 _ (by omega) t w0 _ ht iw25 (by omega) _ (fun w28 iw28 yow28 yfw28 => ?_)
      have mw28 := iw28.num
      refine cs_X1_pass (by omega) hG ht iw28 (fun w30 iw30 y350 y351 y352 => ?_)
      have mw30 := iw30.num
      intro w31 ew31
      have := i_lo (w30 3 7)
      have := i_hi (w30 3 7)
      have : (1 : Int32).toInt = 1 := rfl
      have := i_sub (x := (w30 3 7)) (y := (1 : Int32)) (by omega) (by omega)
      have nw31 := n3_of ew31
      have := nw31.2 0 (by decide)
      have := nw31.2 3 (by decide)
      have := nw31.2 4 (by decide)
      have := nw31.2 5 (by decide)
      have := nw31.2 8 (by decide)
      have := nw31.1
      have iw31 : RI t w0 w31 := ew31 ▸ RI.op ht iw30 (by omega) (by omega)
      have mw31 := iw31.num
      exact k _ iw31 (by omega) (by omega)
  · simp only [Int32.lt_iff_toInt_lt, Int32.le_iff_toInt_le, ← Int32.toInt_inj, Int32.reduceToInt] at h333
    refine cs_X1_fail (by omega) hG ht i (fun w34 iw34 y353 y354 y355 => ?_)
    have mw34 := iw34.num
    exact k _ iw34 (by omega) (by omega)

theorem RdOK.up {Γ : Gx} {M : Mth} {n e e2 : Nat} (h : RdOK Γ M n e) (he : e ≤ e2) : RdOK Γ M n e2 := fun d hd => h d (by omega)
theorem rd_all {Γ : Gx} (hG : GC Γ) : ∀ n : Nat, RdOK Γ M_X1_readOne n (10 + 8 * n) ∧ RdOK Γ M_X1_readNot n (14 + 8 * n) ∧ RdOK Γ M_X1_readOr n (16 + 8 * n) := by
  intro n
  induction n with
  | zero =>
    have a1 := rd_readOne hG (n := 0) (e := 9) (by omega) (fun n2 h => absurd h (by omega))
    have a2 := rd_readTerm hG (by omega) a1
    have a3 := rd_readSum hG (by omega) a2
    have a4 := rd_readCompared hG (by omega) a3
    have a5 := rd_readNot hG (by omega) a4 (fun n2 h => absurd h (by omega))
    have a6 := rd_readAnd hG (by omega) a5
    have a7 := rd_readOr hG (by omega) a6
    exact ⟨a1.up (by omega), a5.up (by omega), a7.up (by omega)⟩
  | succ n ih =>
    obtain ⟨i1, i2, i3⟩ := ih
    have a1 := rd_readOne hG (n := n + 1) (e := 16 + 8 * n) (by omega) (fun n2 h => by
      obtain rfl : n2 = n := by omega
      exact ⟨i3, i1.up (by omega)⟩)
    have a2 := rd_readTerm hG (by omega) a1
    have a3 := rd_readSum hG (by omega) a2
    have a4 := rd_readCompared hG (by omega) a3
    have a5 := rd_readNot hG (by omega) a4 (fun n2 h => by
      obtain rfl : n2 = n := by omega
      exact i2.up (by omega))
    have a6 := rd_readAnd hG (by omega) a5
    have a7 := rd_readOr hG (by omega) a6
    exact ⟨a1.up (by omega), a5.up (by omega), a7.up (by omega)⟩
theorem rd_or {Γ : Gx} (hG : GC Γ) : RdOK Γ M_X1_readOr 5 56 := (rd_all hG 5).2.2
theorem cs_X1_readInto {Γ : Gx} {d : Nat} (hd : 58 ≤ d) (hG : GC Γ) {t : Nat} (ht : isT t) {w : Wd} (h0 : 0 ≤ (w 3 0).toInt) (h1 : (w 3 0).toInt ≤ 160) (hb : ∀ j : Nat, j < 4 → 0 ≤ (w (t + 2) j).toInt ∧ (w (t + 2) j).toInt ≤ 160) {Q : Int32 → Wd → Prop} (k : ∀ (r : Int32) (w' : Wd), (∀ c : Nat, c ≠ 3 → c ≠ t → c ≠ t + 1 → c ≠ t + 2 → w' c = w c) → w' 3 0 = w 3 0 → (∀ j : Nat, j < 4 → 0 ≤ (w' (t + 2) j).toInt ∧ (w' (t + 2) j).toInt ≤ 160) → ((w 3 0).toInt = 0 → r = 0) → Q r w') : CI Γ d M_X1_readInto [.ref (gad Γ 3), .ref (gad Γ t)] w Q := by
  obtain ⟨d, rfl⟩ : ∃ e, d = e + 1 := ⟨d - 1, by omega⟩
  refine con_X1_readInto hG (isT.sh hG.2.1 ht) ?_
  unfold wp_X1_readInto
  obtain ⟨b1, b2, b3, b4, -⟩ := ht.n3
  have n1 : (1 : Int32).toInt = 1 := rfl
  have n3 : (3 : Int32).toInt = 3 := rfl
  have n4 : (4 : Int32).toInt = 4 := rfl
  have n0 : (0 : Int32).toInt = 0 := rfl
  intro P c
  have key : ∀ (m : Nat) (l2 : Int32) (u : Wd), RI t w u → ((w 3 0).toInt = 0 → (u 3 8).toInt = 0 ∨ (l2.toInt = 0 ∧ (u 3 8).toInt = -1 ∧ (u 3 5).toInt = 0 ∧ (u 3 4).toInt = 0)) → ((w 3 0).toInt = 0 → l2.toInt = 3 → (u 3 8).toInt = 0) → 0 ≤ l2.toInt → l2.toInt ≤ 3 → (3 - l2.toInt).toNat < m → P l2 u := by
    intro m
    induction m with
    | zero => intro l2 u _ _ _ _ _ h; omega
    | succ m ih =>
      intro l2 u i hz hz3 a1 a2 a3
      have mi := i.num
      refine c _ _ ⟨fun h => ?_, fun h => ?_⟩
      · rw [Int32.le_iff_toInt_le] at h
        refine ⟨RI.ne ht i, ?_⟩
        rw [RI.t ht i]
        refine ⟨isT.sh hG.2.1 ht, ?_⟩
        refine cs_X3_beginPart (by omega) hG ht (by omega) (by omega) i (fun w20 i20 x20 => ?_)
        refine cs_X1_pass (by omega) hG ht i20 (fun w22 i22 o22 f22 _ => ?_)
        have e8 : (w20 3 8).toInt = (u 3 8).toInt := by rw [x20]
        refine k _ _ i22.2.1 i22.2.2.1 i22.2.2.2.1 (fun q => i_ext ?_)
        have q2 := hz3 q (by omega)
        show (w22 3 8).toInt = 0
        omega
      · rw [Int32.le_iff_toInt_le] at h
        refine ⟨RI.ne ht i, ?_⟩
        rw [RI.t ht i]
        refine ⟨isT.sh hG.2.1 ht, ?_⟩
        refine cs_X3_beginPart (by omega) hG ht (by omega) (by omega) i (fun w26 i26 x26 => ?_)
        have e8 : (w26 3 8).toInt = (u 3 8).toInt := by rw [x26]
        have e5 : (w26 3 5).toInt = (u 3 5).toInt := by rw [x26]
        have e4 : (w26 3 4).toInt = (u 3 4).toInt := by rw [x26]
        have e6 := i_add (x := (4 : Int32)) (y := l2) (by omega) (by omega)
        refine cs_X1_pass (by omega) hG ht i26 (fun w28 i28 o28 f28 g28 => ?_)
        have m28 := i28.num
        refine rd_or hG _ (by omega) t w _ ht i28 (by omega) _ (fun w30 i30 o30 f30 => ?_)
        refine cs_X1_pass (by omega) hG ht i30 (fun w32 i32 o32 f32 _ => ?_)
        have e7 := i_add (x := l2) (y := 1) (by omega) (by omega)
        have hz2 : (w 3 0).toInt = 0 → (w32 3 8).toInt = 0 := fun q => by
          have := hz q
          omega
        exact ih _ _ i32 (fun q => Or.inl (hz2 q)) (fun q _ => hz2 q) (by omega) (by omega) (by omega)
  refine ⟨b4, fun w2 e2 => ?_⟩
  have t2 : (w2 3 2).toNatClampNeg = t := by
    rw [e2, ws_hit]
    exact nI_clamp (by omega)
  have ne2 : ¬ w2 3 2 = -1 := by
    rw [e2, ws_hit]
    rcases ht with rfl | rfl | rfl | rfl | rfl | rfl <;> decide
  refine ⟨ne2, ?_⟩
  rw [t2]
  refine ⟨isT.sh hG.2.1 ht, ?_⟩
  refine cs_X3_empty (by omega) hG ht (fun w7 e7 => ?_)
  intro w8 e8 w10 e10 w12 e12
  have r12 : ∀ j : Nat, j ≠ 2 → j ≠ 3 → j ≠ 7 → j ≠ 8 → w12 3 j = w 3 j := fun j q2 q3 q7 q8 => by
    rw [e12, ws_row q8, e10, ws_row q7, e8, ws_row q3, e7, ws_col (Ne.symm b1), e2, ws_row q2]
  have s33 : w12 3 3 = 0 := by rw [e12, ws_row (by decide), e10, ws_row (by decide), e8, ws_hit]
  have s37 : w12 3 7 = 0 := by rw [e12, ws_row (by decide), e10, ws_hit]
  have s38 : w12 3 8 = -1 := by rw [e12, ws_hit]
  have s32 : w12 3 2 = nI t := by rw [e12, ws_row (by decide), e10, ws_row (by decide), e8, ws_row (by decide), e7, ws_col (Ne.symm b1), e2, ws_hit]
  have st2 : w12 t 2 = 0 := by rw [e12, ws_col b1, e10, ws_col b1, e8, ws_col b1, e7, ws_hit]
  have s30 := r12 0 (by decide) (by decide) (by decide) (by decide)
  have i12 : RI t w w12 := by
    refine ⟨s32, fun c q1 q2 q3 q4 => ?_, s30, fun j hj => ?_, ?_⟩
    · rw [e12, wset_off _ _ _ _ _ q1, e10, wset_off _ _ _ _ _ q1, e8, wset_off _ _ _ _ _ q1, e7, wset_off _ _ _ _ _ q2, e2, wset_off _ _ _ _ _ q1]
    · rw [e12, ws_col b3, e10, ws_col b3, e8, ws_col b3, e7, ws_col (by omega), e2, ws_col b3]
      exact hb j hj
    · unfold numR
      rw [s30, st2, s33, s37]
      omega
  have z33 : (w12 3 3).toInt = 0 := by rw [s33]; rfl
  have z30 : (w12 3 0).toInt = (w 3 0).toInt := by rw [s30]
  have z38 : (w12 3 8).toInt = -1 := by rw [s38]; rfl
  have z37 : (w12 3 7).toInt = 0 := by rw [s37]; rfl
  refine cs_X1_readToken (by omega) hG ht i12 (fun w15 i15 o15 f15 g15 => ?_)
  refine key _ _ _ i15 (fun q => ?_) (fun _ q => by omega) (by omega) (by omega) (Nat.lt_succ_self _)
  have g := g15 z38 (by omega)
  exact Or.inr ⟨n0, by omega, g.1, by omega⟩
