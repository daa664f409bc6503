/-! the model's calls, from any state (written by program) -/
set_option maxRecDepth 20000 in
theorem jm_X5_set {Γ : Gx} {d : Nat} (hd : 4 ≤ d) (hG : GM Γ) {p1 : Int32} {p2 : Int32} {p3 : Int32} {w : Wd} (i : JM w) {Q : Int32 → Wd → Prop} (k : ∀ (r : Int32) (w' : Wd), JM w' → Q r w') : CI Γ d M_X5_set [.ref (gad Γ 0), .int p1, .int p2, .int p3] w Q := by
  obtain ⟨d, rfl⟩ : ∃ e, d = e + 1 := ⟨d - 1, by omega⟩
  refine con_X5_set hG ?_
  unfold wp_X5_set
  have zw := i.num
  refine cs_X5_isOf (by omega) hG (by omega) (fun r1 y1141 y1142 => ?_)
  refine ⟨fun h1143 => ?_, fun h1144 => ?_⟩
  · have h1143 : ¬ _ := fun q => y1142.mpr q h1143
    exact k _ _ i
  · have h1144 := y1142.mp h1144
    refine cs_X5_isFit (by omega) hG (fun r4 y1145 y1146 => ?_)
    refine ⟨fun h1147 => ?_, fun h1148 => ?_⟩
    · have h1147 := y1146.mp h1147
      refine cs_X5_get (by omega) hG (by omega) (fun r7 y1149 y1150 => ?_)
      refine ⟨fun h1151 => ?_, fun h1152 => ?_⟩
      · simp only [Int32.lt_iff_toInt_lt, Int32.le_iff_toInt_le, ← Int32.toInt_inj, Int32.reduceToInt] at h1151
        refine ⟨fun h1153 => ?_, fun h1154 => ?_⟩
        · simp only [Int32.lt_iff_toInt_lt, Int32.le_iff_toInt_le, ← Int32.toInt_inj, Int32.reduceToInt] at h1153
          refine ⟨fun h1155 => ?_, fun h1156 => ?_⟩
          · simp only [Int32.lt_iff_toInt_lt, Int32.le_iff_toInt_le, ← Int32.toInt_inj, Int32.reduceToInt] at h1155
            have := i_lo p2
            have := i_hi p2
            refine ⟨vp_in_iff.mpr (by omega), ?_⟩
            intro w13 ew13
            have iw13 : JM w13 := ew13 ▸ JM.cell ⟨by decide, rfl⟩ i
            have zw13 := iw13.num
            exact k _ _ iw13
          · simp only [Int32.lt_iff_toInt_lt, Int32.le_iff_toInt_le, ← Int32.toInt_inj, Int32.reduceToInt] at h1156
            have := i_lo p2
            have := i_hi p2
            refine ⟨vp_in_iff.mpr (by omega), ?_⟩
            intro w16 ew16
            have iw16 : JM w16 := ew16 ▸ JM.cell ⟨by decide, rfl⟩ i
            have zw16 := iw16.num
            exact k _ _ iw16
        · simp only [Int32.lt_iff_toInt_lt, Int32.le_iff_toInt_le, ← Int32.toInt_inj, Int32.reduceToInt] at h1154
          refine ⟨fun h1157 => ?_, fun h1158 => ?_⟩
          · simp only [Int32.lt_iff_toInt_lt, Int32.le_iff_toInt_le, ← Int32.toInt_inj, Int32.reduceToInt] at h1157
            have := i_lo p2
            have := i_hi p2
            refine ⟨vp_in_iff.mpr (by omega), ?_⟩
            intro w20 ew20
            have iw20 : JM w20 := ew20 ▸ JM.used iz_0 i
            have zw20 := iw20.num
            exact k _ _ iw20
          · simp only [Int32.lt_iff_toInt_lt, Int32.le_iff_toInt_le, ← Int32.toInt_inj, Int32.reduceToInt] at h1158
            have := i_lo p2
            have := i_hi p2
            refine ⟨vp_in_iff.mpr (by omega), ?_⟩
            intro w23 ew23
            have iw23 : JM w23 := ew23 ▸ JM.used iz_1 i
            have zw23 := iw23.num
            exact k _ _ iw23
      · simp only [Int32.lt_iff_toInt_lt, Int32.le_iff_toInt_le, ← Int32.toInt_inj, Int32.reduceToInt] at h1152
        intro w25 ew25
        have iw25 : JM w25 := ew25 ▸ JM.slot rfl i
        have zw25 := iw25.num
        exact k _ _ iw25
    · have h1148 : ¬ _ := fun q => y1146.mpr q h1148
      exact k _ _ i

set_option maxRecDepth 20000 in
theorem jm_X5_person {Γ : Gx} {d : Nat} (hd : 2 ≤ d) (hG : GM Γ) {p1 : Int32} {p2 : Int32} {w : Wd} (i : JM w) {Q : Int32 → Wd → Prop} (k : ∀ (r : Int32) (w' : Wd), JM w' → Q r w') : CI Γ d M_X5_person [.ref (gad Γ 0), .int p1, .int p2] w Q := by
  obtain ⟨d, rfl⟩ : ∃ e, d = e + 1 := ⟨d - 1, by omega⟩
  refine con_X5_person hG ?_
  unfold wp_X5_person
  have zw := i.num
  refine cs_X5_within (by omega) hG (lo := 0) (hi := 5) rfl rfl (fun r1 z1159 y1160 => ?_)
  refine ⟨fun h1161 => ?_, fun h1162 => ?_⟩
  · have h1161 : ¬ _ := fun q => y1160.mpr q h1161
    exact k _ _ i
  · have h1162 := y1160.mp h1162
    refine cs_X5_within (by omega) hG (lo := 0) (hi := 9) rfl rfl (fun r4 z1163 y1164 => ?_)
    refine ⟨fun h1165 => ?_, fun h1166 => ?_⟩
    · have h1165 := y1164.mp h1165
      refine ⟨fun h1167 => ?_, fun h1168 => ?_⟩
      · simp only [Int32.lt_iff_toInt_lt, Int32.le_iff_toInt_le, ← Int32.toInt_inj, Int32.reduceToInt] at h1167
        have := i_lo (w 0 2)
        have := i_hi (w 0 2)
        refine ⟨vp_in_iff.mpr (by omega), ?_⟩
        intro w9 ew9
        have iw9 : JM w9 := ew9 ▸ JM.cell ⟨by decide, rfl⟩ i
        have zw9 := iw9.num
        have : (w9 0 2).toInt = (w 0 2).toInt := by rw [ew9, ws_col (by decide)]
        have := i_lo (w9 0 2)
        have := i_hi (w9 0 2)
        refine ⟨vp_in_iff.mpr (by omega), ?_⟩
        intro w12 ew12
        have iw12 : JM w12 := ew12 ▸ JM.cell ⟨by decide, rfl⟩ iw9
        have zw12 := iw12.num
        have : (w12 0 2).toInt = (w9 0 2).toInt := by rw [ew12, ws_col (by decide)]
        have := i_lo (w12 0 2)
        have := i_hi (w12 0 2)
        refine ⟨vp_in_iff.mpr (by omega), ?_⟩
        intro w15 ew15
        have iw15 : JM w15 := ew15 ▸ JM.cell ⟨by decide, rfl⟩ iw12
        have zw15 := iw15.num
        have : (w15 0 2).toInt = (w12 0 2).toInt := by rw [ew15, ws_col (by decide)]
        intro w17 ew17
        have := i_lo (w15 0 2)
        have := i_hi (w15 0 2)
        have : (1 : Int32).toInt = 1 := rfl
        have := i_add (x := (w15 0 2)) (y := (1 : Int32)) (by omega) (by omega)
        have iw17 : JM w17 := ew17 ▸ JM.m2 (by omega) iw15
        have zw17 := iw17.num
        exact k _ _ iw17
      · simp only [Int32.lt_iff_toInt_lt, Int32.le_iff_toInt_le, ← Int32.toInt_inj, Int32.reduceToInt] at h1168
        exact k _ _ i
    · have h1166 : ¬ _ := fun q => y1164.mpr q h1166
      exact k _ _ i

set_option maxRecDepth 20000 in
theorem jm_X5_best {Γ : Gx} {d : Nat} (hd : 9 ≤ d) (hG : GM Γ) {p1 : Int32} {p2 : Int32} {p3 : Int32} {w : Wd} (i : JM w) {Q : Int32 → Wd → Prop} (k : ∀ (r : Int32) (w' : Wd), JM w' → Q r w') : CI Γ d M_X5_best [.ref (gad Γ 0), .int p1, .int p2, .int p3] w Q := by
  obtain ⟨d, rfl⟩ : ∃ e, d = e + 1 := ⟨d - 1, by omega⟩
  refine con_X5_best hG ?_
  unfold wp_X5_best
  have zw := i.num
  intro P_51
  intro cP_51
  have key : ∀ m : Nat, (∀ (l4 : Int32) (l5 : Int32) (l6 : Int32) (l7 : Int32) (w : Wd), JM w → (-20 ≤ l7.toInt ∧ l7.toInt ≤ 21) → (0 ≤ p1.toInt ∧ p1.toInt ≤ 4) → ((22 - l7.toInt).toNat) < m → P_51 l4 l5 l6 l7 w) := by
    intro m
    induction m with
    | zero => exact fun _ _ _ _ _ _ _ _ h => absurd h (Nat.not_lt_zero _)
    | succ m ih =>
      intro l4 l5 l6 l7 w i v0 v1 hm
      refine cP_51 _ _ _ _ _ ?_
      have z4 := i.num
      refine ⟨fun h1169 => ?_, fun h1170 => ?_⟩
      · simp only [Int32.lt_iff_toInt_lt, Int32.le_iff_toInt_le, ← Int32.toInt_inj, Int32.reduceToInt] at h1169
        have := i_lo p1
        have := i_hi p1
        refine ⟨vp_in_iff.mpr (by omega), ?_⟩
        intro w13 ew13
        have iw13 : JM w13 := ew13 ▸ JM.cell ⟨by decide, rfl⟩ i
        have zw13 := iw13.num
        refine ⟨fun h1171 => ?_, fun h1172 => ?_⟩
        · simp only [Int32.lt_iff_toInt_lt, Int32.le_iff_toInt_le, ← Int32.toInt_inj, Int32.reduceToInt] at h1171
          exact k _ _ iw13
        · simp only [Int32.lt_iff_toInt_lt, Int32.le_iff_toInt_le, ← Int32.toInt_inj, Int32.reduceToInt] at h1172
          exact k _ _ iw13
      · simp only [Int32.lt_iff_toInt_lt, Int32.le_iff_toInt_le, ← Int32.toInt_inj, Int32.reduceToInt] at h1170
        have := i_lo p1
        have := i_hi p1
        refine ⟨vp_in_iff.mpr (by omega), ?_⟩
        intro w17 ew17
        have iw17 : JM w17 := ew17 ▸ JM.cell ⟨by decide, rfl⟩ i
        have zw17 := iw17.num
        refine im_X5_gladBehind (by omega) hG iw17 (fun r19 w20 iw20 => ?_)
        have tw20 : (w20 0 9).toInt = (w17 0 9).toInt := congrArg Int32.toInt (congrArg Prod.fst iw20.1)
        have iw20 : JM w20 := JM.of iw20
        have zw20 := iw20.num
        refine ⟨fun h1173 => ?_, fun h1174 => ?_⟩
        · simp only [Int32.lt_iff_toInt_lt, Int32.le_iff_toInt_le, ← Int32.toInt_inj, Int32.reduceToInt] at h1173
          have := i_lo l7
          have := i_hi l7
          have : (1 : Int32).toInt = 1 := rfl
          have := i_add (x := l7) (y := (1 : Int32)) (by omega) (by omega)
          exact ih _ _ _ _ _ iw20 (by first | omega | rfl | assumption) (by first | omega | rfl | assumption) (by omega)
        · simp only [Int32.lt_iff_toInt_lt, Int32.le_iff_toInt_le, ← Int32.toInt_inj, Int32.reduceToInt] at h1174
          have := i_lo l7
          have := i_hi l7
          have : (1 : Int32).toInt = 1 := rfl
          have := i_add (x := l7) (y := (1 : Int32)) (by omega) (by omega)
          exact ih _ _ _ _ _ iw20 (by first | omega | rfl | assumption) (by first | omega | rfl | assumption) (by omega)
  refine cs_X5_isOne (by omega) hG (by omega) (fun r1 y1175 y1176 => ?_)
  refine ⟨fun h1177 => ?_, fun h1178 => ?_⟩
  · have h1177 : ¬ _ := fun q => y1176.mpr q h1177
    exact k _ _ i
  · have h1178 := y1176.mp h1178
    refine cs_X5_within (by omega) hG (lo := 0) (hi := 10) rfl rfl (fun r4 z1179 y1180 => ?_)
    refine ⟨fun h1181 => ?_, fun h1182 => ?_⟩
    · have h1181 : ¬ _ := fun q => y1180.mpr q h1181
      exact k _ _ i
    · have h1182 := y1180.mp h1182
      refine cs_X5_within (by omega) hG (lo := 0) (hi := 1) rfl rfl (fun r7 z1183 y1184 => ?_)
      refine ⟨fun h1185 => ?_, fun h1186 => ?_⟩
      · have h1185 := y1184.mp h1185
        have := i_lo p1
        have := i_hi p1
        refine ⟨vp_in_iff.mpr (by omega), ?_⟩
        have : (-20 : Int32).toInt = -20 := rfl
        exact (key _) _ _ _ _ _ i (by first | omega | rfl | assumption) (by first | omega | rfl | assumption) (Nat.lt_succ_self _)
      · have h1186 : ¬ _ := fun q => y1184.mpr q h1186
        exact k _ _ i

set_option maxRecDepth 20000 in
theorem jm_X5_leaveOut {Γ : Gx} {d : Nat} (hd : 9 ≤ d) (hG : GM Γ) {p1 : Int32} {p2 : Int32} {w : Wd} (i : JM w) {Q : Int32 → Wd → Prop} (k : ∀ (r : Int32) (w' : Wd), JM w' → Q r w') : CI Γ d M_X5_leaveOut [.ref (gad Γ 0), .int p1, .int p2] w Q := by
  obtain ⟨d, rfl⟩ : ∃ e, d = e + 1 := ⟨d - 1, by omega⟩
  refine con_X5_leaveOut hG ?_
  unfold wp_X5_leaveOut
  have zw := i.num
  intro P_35
  intro cP_35
  have key : ∀ m : Nat, (∀ (l3 : Int32) (l4 : Int32) (l5 : Int32) (w : Wd), JM w → (0 ≤ l5.toInt ∧ l5.toInt ≤ 5) → ((6 - l5.toInt).toNat) < m → P_35 l3 l4 l5 w) := by
    intro m
    induction m with
    | zero => exact fun _ _ _ _ _ _ h => absurd h (Nat.not_lt_zero _)
    | succ m ih =>
      intro l3 l4 l5 w i v0 hm
      refine cP_35 _ _ _ _ ?_
      have z4 := i.num
      refine ⟨fun h1187 => ?_, fun h1188 => ?_⟩
      · simp only [Int32.lt_iff_toInt_lt, Int32.le_iff_toInt_le, ← Int32.toInt_inj, Int32.reduceToInt] at h1187
        refine ⟨fun h1189 => ?_, fun h1190 => ?_⟩
        · simp only [Int32.lt_iff_toInt_lt, Int32.le_iff_toInt_le, ← Int32.toInt_inj, Int32.reduceToInt] at h1189
          exact k _ _ i
        · simp only [Int32.lt_iff_toInt_lt, Int32.le_iff_toInt_le, ← Int32.toInt_inj, Int32.reduceToInt] at h1190
          exact k _ _ i
      · simp only [Int32.lt_iff_toInt_lt, Int32.le_iff_toInt_le, ← Int32.toInt_inj, Int32.reduceToInt] at h1188
        intro w11 ew11
        have iw11 : JM w11 := ew11 ▸ JM.slot rfl i
        have zw11 := iw11.num
        refine im_X5_gladBehind (by omega) hG iw11 (fun r13 w14 iw14 => ?_)
        have tw14 : (w14 0 9).toInt = (w11 0 9).toInt := congrArg Int32.toInt (congrArg Prod.fst iw14.1)
        have iw14 : JM w14 := JM.of iw14
        have zw14 := iw14.num
        intro w15 ew15
        have : (-1 : Int32).toInt = -1 := rfl
        have iw15 : JM w15 := ew15 ▸ JM.slot rfl iw14
        have zw15 := iw15.num
        refine ⟨fun h1191 => ?_, fun h1192 => ?_⟩
        · simp only [Int32.lt_iff_toInt_lt, Int32.le_iff_toInt_le, ← Int32.toInt_inj, Int32.reduceToInt] at h1191
          have := i_lo l5
          have := i_hi l5
          have : (1 : Int32).toInt = 1 := rfl
          have := i_add (x := l5) (y := (1 : Int32)) (by omega) (by omega)
          exact ih _ _ _ _ iw15 (by first | omega | rfl | assumption) (by omega)
        · simp only [Int32.lt_iff_toInt_lt, Int32.le_iff_toInt_le, ← Int32.toInt_inj, Int32.reduceToInt] at h1192
          have := i_lo l5
          have := i_hi l5
          have : (1 : Int32).toInt = 1 := rfl
          have := i_add (x := l5) (y := (1 : Int32)) (by omega) (by omega)
          exact ih _ _ _ _ iw15 (by first | omega | rfl | assumption) (by omega)
  refine cs_X5_within (by omega) hG (lo := 0) (hi := 40) rfl rfl (fun r1 z1193 y1194 => ?_)
  refine ⟨fun h1195 => ?_, fun h1196 => ?_⟩
  · have h1195 : ¬ _ := fun q => y1194.mpr q h1195
    exact k _ _ i
  · have h1196 := y1194.mp h1196
    refine cs_X5_within (by omega) hG (lo := 0) (hi := 1) rfl rfl (fun r4 z1197 y1198 => ?_)
    refine ⟨fun h1199 => ?_, fun h1200 => ?_⟩
    · have h1199 := y1198.mp h1199
      refine im_X5_gladBehind (by omega) hG i (fun r7 w8 iw8 => ?_)
      have tw8 : (w8 0 9).toInt = (w 0 9).toInt := congrArg Int32.toInt (congrArg Prod.fst iw8.1)
      have iw8 : JM w8 := JM.of iw8
      have zw8 := iw8.num
      have : (0 : Int32).toInt = 0 := rfl
      exact (key _) _ _ _ _ iw8 (by first | omega | rfl | assumption) (Nat.lt_succ_self _)
    · have h1200 : ¬ _ := fun q => y1198.mpr q h1200
      exact k _ _ i

set_option maxRecDepth 20000 in
theorem jm_X5_spare {Γ : Gx} {d : Nat} (hd : 9 ≤ d) (hG : GM Γ) {p1 : Int32} {p2 : Int32} {w : Wd} (i : JM w) {Q : Int32 → Wd → Prop} (k : ∀ (r : Int32) (w' : Wd), JM w' → Q r w') : CI Γ d M_X5_spare [.ref (gad Γ 0), .int p1, .int p2] w Q := by
  obtain ⟨d, rfl⟩ : ∃ e, d = e + 1 := ⟨d - 1, by omega⟩
  refine con_X5_spare hG ?_
  unfold wp_X5_spare
  have zw := i.num
  intro P_35
  intro cP_35
  have key : ∀ m : Nat, (∀ (l3 : Int32) (l4 : Int32) (l5 : Int32) (w : Wd), JM w → (0 ≤ l5.toInt ∧ l5.toInt ≤ 8) → ((9 - l5.toInt).toNat) < m → P_35 l3 l4 l5 w) := by
    intro m
    induction m with
    | zero => exact fun _ _ _ _ _ _ h => absurd h (Nat.not_lt_zero _)
    | succ m ih =>
      intro l3 l4 l5 w i v0 hm
      refine cP_35 _ _ _ _ ?_
      have z4 := i.num
      refine ⟨fun h1201 => ?_, fun h1202 => ?_⟩
      · simp only [Int32.lt_iff_toInt_lt, Int32.le_iff_toInt_le, ← Int32.toInt_inj, Int32.reduceToInt] at h1201
        refine ⟨fun h1203 => ?_, fun h1204 => ?_⟩
        · simp only [Int32.lt_iff_toInt_lt, Int32.le_iff_toInt_le, ← Int32.toInt_inj, Int32.reduceToInt] at h1203
          exact k _ _ i
        · simp only [Int32.lt_iff_toInt_lt, Int32.le_iff_toInt_le, ← Int32.toInt_inj, Int32.reduceToInt] at h1204
          exact k _ _ i
      · simp only [Int32.lt_iff_toInt_lt, Int32.le_iff_toInt_le, ← Int32.toInt_inj, Int32.reduceToInt] at h1202
        have := i_lo l5
        have := i_hi l5
        refine ⟨vp_in_iff.mpr (by omega), ?_⟩
        refine ⟨fun h1205 => ?_, fun h1206 => ?_⟩
        · simp only [Int32.lt_iff_toInt_lt, Int32.le_iff_toInt_le, ← Int32.toInt_inj, Int32.reduceToInt] at h1205
          intro w13 ew13
          have iw13 : JM w13 := ew13 ▸ JM.used iz_0 i
          have zw13 := iw13.num
          refine im_X5_gladBehind (by omega) hG iw13 (fun r15 w16 iw16 => ?_)
          have tw16 : (w16 0 9).toInt = (w13 0 9).toInt := congrArg Int32.toInt (congrArg Prod.fst iw16.1)
          have iw16 : JM w16 := JM.of iw16
          have zw16 := iw16.num
          intro w17 ew17
          have iw17 : JM w17 := ew17 ▸ JM.used iz_1 iw16
          have zw17 := iw17.num
          refine ⟨fun h1207 => ?_, fun h1208 => ?_⟩
          · simp only [Int32.lt_iff_toInt_lt, Int32.le_iff_toInt_le, ← Int32.toInt_inj, Int32.reduceToInt] at h1207
            have : (1 : Int32).toInt = 1 := rfl
            have := i_add (x := l5) (y := (1 : Int32)) (by omega) (by omega)
            exact ih _ _ _ _ iw17 (by first | omega | rfl | assumption) (by omega)
          · simp only [Int32.lt_iff_toInt_lt, Int32.le_iff_toInt_le, ← Int32.toInt_inj, Int32.reduceToInt] at h1208
            have : (1 : Int32).toInt = 1 := rfl
            have := i_add (x := l5) (y := (1 : Int32)) (by omega) (by omega)
            exact ih _ _ _ _ iw17 (by first | omega | rfl | assumption) (by omega)
        · simp only [Int32.lt_iff_toInt_lt, Int32.le_iff_toInt_le, ← Int32.toInt_inj, Int32.reduceToInt] at h1206
          have : (1 : Int32).toInt = 1 := rfl
          have := i_add (x := l5) (y := (1 : Int32)) (by omega) (by omega)
          exact ih _ _ _ _ i (by first | omega | rfl | assumption) (by omega)
  refine cs_X5_within (by omega) hG (lo := 0) (hi := 40) rfl rfl (fun r1 z1209 y1210 => ?_)
  refine ⟨fun h1211 => ?_, fun h1212 => ?_⟩
  · have h1211 : ¬ _ := fun q => y1210.mpr q h1211
    exact k _ _ i
  · have h1212 := y1210.mp h1212
    refine cs_X5_within (by omega) hG (lo := 0) (hi := 1) rfl rfl (fun r4 z1213 y1214 => ?_)
    refine ⟨fun h1215 => ?_, fun h1216 => ?_⟩
    · have h1215 := y1214.mp h1215
      refine im_X5_gladBehind (by omega) hG i (fun r7 w8 iw8 => ?_)
      have tw8 : (w8 0 9).toInt = (w 0 9).toInt := congrArg Int32.toInt (congrArg Prod.fst iw8.1)
      have iw8 : JM w8 := JM.of iw8
      have zw8 := iw8.num
      have : (0 : Int32).toInt = 0 := rfl
      exact (key _) _ _ _ _ iw8 (by first | omega | rfl | assumption) (Nat.lt_succ_self _)
    · have h1216 : ¬ _ := fun q => y1214.mpr q h1216
      exact k _ _ i

set_option maxRecDepth 20000 in
theorem jm_X5_add {Γ : Gx} {d : Nat} (hd : 6 ≤ d) (hG : GM Γ) {p1 : Int32} {p2 : Int32} {p3 : Int32} {w : Wd} (i : JM w) {Q : Int32 → Wd → Prop} (k : ∀ (r : Int32) (w' : Wd), JM w' → Q r w') : CI Γ d M_X5_add [.ref (gad Γ 0), .int p1, .int p2, .int p3] w Q := by
  obtain ⟨d, rfl⟩ : ∃ e, d = e + 1 := ⟨d - 1, by omega⟩
  refine con_X5_add hG ?_
  unfold wp_X5_add
  have zw := i.num
  intro P_57
  intro cP_57
  have key : ∀ m : Nat, (∀ (l4 : Int32) (l5 : Int32) (l6 : Int32) (l7 : Int32) (l8 : Int32) (w : Wd), JM w → (0 ≤ l8.toInt ∧ l8.toInt ≤ 8) → (0 ≤ p1.toInt ∧ p1.toInt ≤ 4) → (0 ≤ p2.toInt ∧ p2.toInt ≤ 4) → ((9 - l8.toInt).toNat) < m → P_57 l4 l5 l6 l7 l8 w) := by
    intro m
    induction m with
    | zero => exact fun _ _ _ _ _ _ _ _ _ _ h => absurd h (Nat.not_lt_zero _)
    | succ m ih =>
      intro l4 l5 l6 l7 l8 w i v0 v1 v2 hm
      refine cP_57 _ _ _ _ _ _ ?_
      have z4 := i.num
      refine ⟨fun h1217 => ?_, fun h1218 => ?_⟩
      · simp only [Int32.lt_iff_toInt_lt, Int32.le_iff_toInt_le, ← Int32.toInt_inj, Int32.reduceToInt] at h1217
        refine ⟨fun h1219 => ?_, fun h1220 => ?_⟩
        · simp only [Int32.lt_iff_toInt_lt, Int32.le_iff_toInt_le, ← Int32.toInt_inj, Int32.reduceToInt] at h1219
          exact k _ _ i
        · simp only [Int32.lt_iff_toInt_lt, Int32.le_iff_toInt_le, ← Int32.toInt_inj, Int32.reduceToInt] at h1220
          exact k _ _ i
      · simp only [Int32.lt_iff_toInt_lt, Int32.le_iff_toInt_le, ← Int32.toInt_inj, Int32.reduceToInt] at h1218
        have := i_lo l8
        have := i_hi l8
        refine ⟨vp_in_iff.mpr (by omega), ?_⟩
        refine ⟨fun h1221 => ?_, fun h1222 => ?_⟩
        · simp only [Int32.lt_iff_toInt_lt, Int32.le_iff_toInt_le, ← Int32.toInt_inj, Int32.reduceToInt] at h1221
          have : (1 : Int32).toInt = 1 := rfl
          have := i_add (x := l8) (y := (1 : Int32)) (by omega) (by omega)
          exact ih _ _ _ _ _ _ i (by first | omega | rfl | assumption) (by first | omega | rfl | assumption) (by first | omega | rfl | assumption) (by omega)
        · simp only [Int32.lt_iff_toInt_lt, Int32.le_iff_toInt_le, ← Int32.toInt_inj, Int32.reduceToInt] at h1222
          refine ⟨fun h1223 => ?_, fun h1224 => ?_⟩
          · simp only [Int32.lt_iff_toInt_lt, Int32.le_iff_toInt_le, ← Int32.toInt_inj, Int32.reduceToInt] at h1223
            refine im_X5_feels (by omega) hG i (by omega) (by omega) (fun r19 w20 iw20 => ?_)
            have tw20 : (w20 0 9).toInt = (w 0 9).toInt := congrArg Int32.toInt (congrArg Prod.fst iw20.1)
            have iw20 : JM w20 := JM.of iw20
            have zw20 := iw20.num
            refine im_X5_bound (by omega) hG iw20 (fun r21 w22 iw22 => ?_)
            have tw22 : (w22 0 9).toInt = (w20 0 9).toInt := congrArg Int32.toInt (congrArg Prod.fst iw22.1)
            have iw22 : JM w22 := JM.of iw22
            have zw22 := iw22.num
            refine ⟨fun h1225 => ?_, fun h1226 => ?_⟩
            · simp only [Int32.lt_iff_toInt_lt, Int32.le_iff_toInt_le, ← Int32.toInt_inj, Int32.reduceToInt] at h1225
              have : (1 : Int32).toInt = 1 := rfl
              have := i_add (x := l8) (y := (1 : Int32)) (by omega) (by omega)
              exact ih _ _ _ _ _ _ iw22 (by first | omega | rfl | assumption) (by first | omega | rfl | assumption) (by first | omega | rfl | assumption) (by omega)
            · simp only [Int32.lt_iff_toInt_lt, Int32.le_iff_toInt_le, ← Int32.toInt_inj, Int32.reduceToInt] at h1226
              have : (1 : Int32).toInt = 1 := rfl
              have := i_add (x := l8) (y := (1 : Int32)) (by omega) (by omega)
              exact ih _ _ _ _ _ _ iw22 (by first | omega | rfl | assumption) (by first | omega | rfl | assumption) (by first | omega | rfl | assumption) (by omega)
          · simp only [Int32.lt_iff_toInt_lt, Int32.le_iff_toInt_le, ← Int32.toInt_inj, Int32.reduceToInt] at h1224
            have : (1 : Int32).toInt = 1 := rfl
            have := i_add (x := l8) (y := (1 : Int32)) (by omega) (by omega)
            exact ih _ _ _ _ _ _ i (by first | omega | rfl | assumption) (by first | omega | rfl | assumption) (by first | omega | rfl | assumption) (by omega)
  refine cs_X5_areTwo (by omega) hG (by omega) (fun r1 y1227 y1228 => ?_)
  refine ⟨fun h1229 => ?_, fun h1230 => ?_⟩
  · have h1229 : ¬ _ := fun q => y1228.mpr q h1229
    exact k _ _ i
  · have h1230 := y1228.mp h1230
    refine cs_X5_within (by omega) hG (lo := 0) (hi := 1) rfl rfl (fun r4 z1231 y1232 => ?_)
    refine ⟨fun h1233 => ?_, fun h1234 => ?_⟩
    · have h1233 := y1232.mp h1233
      have := i_lo p2
      have := i_hi p2
      refine ⟨vp_in_iff.mpr (by omega), ?_⟩
      refine im_X5_felt (by omega) hG i (by omega) (fun r8 w9 iw9 => ?_)
      have tw9 : (w9 0 9).toInt = (w 0 9).toInt := congrArg Int32.toInt (congrArg Prod.fst iw9.1)
      have iw9 : JM w9 := JM.of iw9
      have zw9 := iw9.num
      refine im_X5_made (by omega) hG iw9 (by omega) (by omega) (fun r10 w11 iw11 => ?_)
      have tw11 : (w11 0 9).toInt = (w9 0 9).toInt := congrArg Int32.toInt (congrArg Prod.fst iw11.1)
      have iw11 : JM w11 := JM.of iw11
      have zw11 := iw11.num
      refine im_X5_bound (by omega) hG iw11 (fun r12 w13 iw13 => ?_)
      have tw13 : (w13 0 9).toInt = (w11 0 9).toInt := congrArg Int32.toInt (congrArg Prod.fst iw13.1)
      have iw13 : JM w13 := JM.of iw13
      have zw13 := iw13.num
      have : (0 : Int32).toInt = 0 := rfl
      exact (key _) _ _ _ _ _ _ iw13 (by first | omega | rfl | assumption) (by first | omega | rfl | assumption) (by first | omega | rfl | assumption) (Nat.lt_succ_self _)
    · have h1234 : ¬ _ := fun q => y1232.mpr q h1234
      exact k _ _ i

set_option maxRecDepth 20000 in
theorem jm_X5_textsSo {Γ : Gx} {d : Nat} (hd : 8 ≤ d) (hG : GM Γ) {p1 : Int32} {p2 : Int32} {w : Wd} (i : JM w) (h1 : 0 ≤ p1.toInt ∧ p1.toInt ≤ 3) (h2 : 0 ≤ p2.toInt ∧ p2.toInt ≤ 4) {Q : Int32 → Wd → Prop} (k : ∀ (r : Int32) (w' : Wd), JM w' → Q r w') : CI Γ d M_X5_textsSo [.ref (gad Γ 0), .int p1, .int p2] w Q := by
  obtain ⟨d, rfl⟩ : ∃ e, d = e + 1 := ⟨d - 1, by omega⟩
  refine con_X5_textsSo hG ?_
  unfold wp_X5_textsSo
  have zw := i.num
  intro P_11
  intro cP_11
  have key : ∀ m : Nat, (∀ (l3 : Int32) (l4 : Int32) (l5 : Int32) (w : Wd), JM w → (0 ≤ l3.toInt ∧ l3.toInt < (w 0 9).toInt) → (0 ≤ l5.toInt ∧ l5.toInt ≤ 6) → ((7 - l5.toInt).toNat) < m → P_11 l3 l4 l5 w) := by
    intro m
    induction m with
    | zero => exact fun _ _ _ _ _ _ _ h => absurd h (Nat.not_lt_zero _)
    | succ m ih =>
      intro l3 l4 l5 w i v0 v1 hm
      refine cP_11 _ _ _ _ ?_
      have z4 := i.num
      refine ⟨fun h1235 => ?_, fun h1236 => ?_⟩
      · simp only [Int32.lt_iff_toInt_lt, Int32.le_iff_toInt_le, ← Int32.toInt_inj, Int32.reduceToInt] at h1235
        intro w2 ew2
        have iw2 : JM w2 := ew2 ▸ JM.m6 (by omega) i
        have zw2 := iw2.num
        have : (w2 0 9).toInt = (w 0 9).toInt := by rw [ew2, ws_row (by decide)]
        exact k _ _ iw2
      · simp only [Int32.lt_iff_toInt_lt, Int32.le_iff_toInt_le, ← Int32.toInt_inj, Int32.reduceToInt] at h1236
        intro w4 ew4
        have iw4 : JM w4 := ew4 ▸ JM.m6 (by omega) i
        have zw4 := iw4.num
        have : (w4 0 9).toInt = (w 0 9).toInt := by rw [ew4, ws_row (by decide)]
        refine im_X5_wrong (by omega) hG iw4 (by omega) (by omega) (fun r6 w7 iw7 => ?_)
        have tw7 : (w7 0 9).toInt = (w4 0 9).toInt := congrArg Int32.toInt (congrArg Prod.fst iw7.1)
        have iw7 : JM w7 := JM.of iw7
        have zw7 := iw7.num
        refine ⟨fun h1237 => ?_, fun h1238 => ?_⟩
        · simp only [Int32.lt_iff_toInt_lt, Int32.le_iff_toInt_le, ← Int32.toInt_inj, Int32.reduceToInt] at h1237
          have := i_lo l5
          have := i_hi l5
          have : (1 : Int32).toInt = 1 := rfl
          have := i_add (x := l5) (y := (1 : Int32)) (by omega) (by omega)
          exact ih _ _ _ _ iw7 (by first | omega | rfl | assumption) (by first | omega | rfl | assumption) (by omega)
        · simp only [Int32.lt_iff_toInt_lt, Int32.le_iff_toInt_le, ← Int32.toInt_inj, Int32.reduceToInt] at h1238
          have := i_lo l5
          have := i_hi l5
          have : (1 : Int32).toInt = 1 := rfl
          have := i_add (x := l5) (y := (1 : Int32)) (by omega) (by omega)
          exact ih _ _ _ _ iw7 (by first | omega | rfl | assumption) (by first | omega | rfl | assumption) (by omega)
  have : (0 : Int32).toInt = 0 := rfl
  exact (key _) _ _ _ _ i (by first | omega | rfl | assumption) (by first | omega | rfl | assumption) (Nat.lt_succ_self _)

set_option maxRecDepth 20000 in
theorem jm_X5_tells {Γ : Gx} {d : Nat} (hd : 9 ≤ d) (hG : GM Γ) {p1 : Int32} {p2 : Int32} {p3 : Int32} {w : Wd} (i : JM w) {Q : Int32 → Wd → Prop} (k : ∀ (r : Int32) (w' : Wd), JM w' → Q r w') : CI Γ d M_X5_tells [.ref (gad Γ 0), .int p1, .int p2, .int p3] w Q := by
  obtain ⟨d, rfl⟩ : ∃ e, d = e + 1 := ⟨d - 1, by omega⟩
  refine con_X5_tells hG ?_
  unfold wp_X5_tells
  have zw := i.num
  refine cs_X5_isSheet (by omega) hG (fun r1 y1239 y1240 => ?_)
  refine ⟨fun h1241 => ?_, fun h1242 => ?_⟩
  · have h1241 : ¬ _ := fun q => y1240.mpr q h1241
    exact k _ _ i
  · have h1242 := y1240.mp h1242
    refine cs_X5_isOne (by omega) hG (by omega) (fun r4 y1243 y1244 => ?_)
    refine ⟨fun h1245 => ?_, fun h1246 => ?_⟩
    · have h1245 : ¬ _ := fun q => y1244.mpr q h1245
      exact k _ _ i
    · have h1246 := y1244.mp h1246
      refine cs_X5_within (by omega) hG (lo := 0) (hi := 5) rfl rfl (fun r7 z1247 y1248 => ?_)
      refine ⟨fun h1249 => ?_, fun h1250 => ?_⟩
      · have h1249 := y1248.mp h1249
        have := i_lo p1
        have := i_hi p1
        refine ⟨vp_in_iff.mpr (by omega), ?_⟩
        refine ⟨fun h1251 => ?_, fun h1252 => ?_⟩
        · simp only [Int32.lt_iff_toInt_lt, Int32.le_iff_toInt_le, ← Int32.toInt_inj, Int32.reduceToInt] at h1251
          refine ⟨fun h1253 => ?_, fun h1254 => ?_⟩
          · simp only [Int32.lt_iff_toInt_lt, Int32.le_iff_toInt_le, ← Int32.toInt_inj, Int32.reduceToInt] at h1253
            refine ⟨fun h1255 => ?_, fun h1256 => ?_, fun h1257 => ?_, fun h1258 => ?_, fun h1259 => ?_, fun h1260 => ?_⟩
            · simp only [Int32.lt_iff_toInt_lt, Int32.le_iff_toInt_le, ← Int32.toInt_inj, Int32.reduceToInt] at h1255
              refine im_X5_wrong (by omega) hG i (by omega) (by omega) (fun r13 w14 iw14 => ?_)
              have tw14 : (w14 0 9).toInt = (w 0 9).toInt := congrArg Int32.toInt (congrArg Prod.fst iw14.1)
              have iw14 : JM w14 := JM.of iw14
              have zw14 := iw14.num
              exact k _ _ iw14
            · simp only [Int32.lt_iff_toInt_lt, Int32.le_iff_toInt_le, ← Int32.toInt_inj, Int32.reduceToInt] at h1256
              refine im_X5_kindsSo (by omega) hG i (by omega) (by omega) (fun r15 w16 iw16 => ?_)
              have tw16 : (w16 0 9).toInt = (w 0 9).toInt := congrArg Int32.toInt (congrArg Prod.fst iw16.1)
              have iw16 : JM w16 := JM.of iw16
              have zw16 := iw16.num
              exact k _ _ iw16
            · simp only [Int32.lt_iff_toInt_lt, Int32.le_iff_toInt_le, ← Int32.toInt_inj, Int32.reduceToInt] at h1257
              refine im_X5_numbersSo (by omega) hG i (by omega) (by omega) (fun r17 w18 iw18 => ?_)
              have tw18 : (w18 0 9).toInt = (w 0 9).toInt := congrArg Int32.toInt (congrArg Prod.fst iw18.1)
              have iw18 : JM w18 := JM.of iw18
              have zw18 := iw18.num
              exact k _ _ iw18
            · simp only [Int32.lt_iff_toInt_lt, Int32.le_iff_toInt_le, ← Int32.toInt_inj, Int32.reduceToInt] at h1258
              have : (0 : Int32).toInt = 0 := rfl
              refine im_X5_moodsSo (by omega) hG i (by omega) (by omega) (fun r19 w20 iw20 => ?_)
              have tw20 : (w20 0 9).toInt = (w 0 9).toInt := congrArg Int32.toInt (congrArg Prod.fst iw20.1)
              have iw20 : JM w20 := JM.of iw20
              have zw20 := iw20.num
              exact k _ _ iw20
            · simp only [Int32.lt_iff_toInt_lt, Int32.le_iff_toInt_le, ← Int32.toInt_inj, Int32.reduceToInt] at h1259
              have : (1 : Int32).toInt = 1 := rfl
              refine im_X5_moodsSo (by omega) hG i (by omega) (by omega) (fun r21 w22 iw22 => ?_)
              have tw22 : (w22 0 9).toInt = (w 0 9).toInt := congrArg Int32.toInt (congrArg Prod.fst iw22.1)
              have iw22 : JM w22 := JM.of iw22
              have zw22 := iw22.num
              exact k _ _ iw22
            · simp only [Int32.lt_iff_toInt_lt, Int32.le_iff_toInt_le, ← Int32.toInt_inj, Int32.reduceToInt] at h1260
              refine jm_X5_textsSo (by omega) hG i (by omega) (by omega) (fun r23 w24 iw24 => ?_)
              have zw24 := iw24.num
              exact k _ _ iw24
          · simp only [Int32.lt_iff_toInt_lt, Int32.le_iff_toInt_le, ← Int32.toInt_inj, Int32.reduceToInt] at h1254
            exact k _ _ i
        · simp only [Int32.lt_iff_toInt_lt, Int32.le_iff_toInt_le, ← Int32.toInt_inj, Int32.reduceToInt] at h1252
          exact k _ _ i
      · have h1250 : ¬ _ := fun q => y1248.mpr q h1250
        exact k _ _ i

set_option maxRecDepth 20000 in
theorem jm_X5_sheet {Γ : Gx} {d : Nat} (hd : 3 ≤ d) (hG : GM Γ) {p1 : Int32} {p2 : Int32} {p3 : Int32} {w : Wd} (i : JM w) {Q : Int32 → Wd → Prop} (k : ∀ (r : Int32) (w' : Wd), JM w' → (r = a_sheet p1 p2 p3) → Q r w') : CI Γ d M_X5_sheet [.ref (gad Γ 0), .int p1, .int p2, .int p3] w Q := by
  obtain ⟨d, rfl⟩ : ∃ e, d = e + 1 := ⟨d - 1, by omega⟩
  refine con_X5_sheet hG ?_
  unfold wp_X5_sheet
  have zw := i.num
  intro P_43
  intro P_68
  intro cP_43
  intro cP_68
  have key : ∀ m : Nat, (∀ (w : Wd), JM w → (0 ≤ p1.toInt ∧ p1.toInt ≤ 3) → (-1 ≤ p2.toInt ∧ p2.toInt ≤ 2) → (p2.toInt = -1 ∨ (0 ≤ p3.toInt ∧ p3.toInt ≤ 40)) → (100) < m → P_43 w) ∧ (∀ (l4 : Int32) (w : Wd), JM w → (0 ≤ l4.toInt ∧ l4.toInt ≤ 40) → (0 ≤ p1.toInt ∧ p1.toInt ≤ 3) → (-1 ≤ p2.toInt ∧ p2.toInt ≤ 2) → (p2.toInt = -1 ∨ (0 ≤ p3.toInt ∧ p3.toInt ≤ 40)) → ((41 - l4.toInt).toNat) < m → P_68 l4 w) := by
    intro m
    induction m with
    | zero => exact ⟨fun _ _ _ _ _ h => absurd h (Nat.not_lt_zero _), fun _ _ _ _ _ _ _ h => absurd h (Nat.not_lt_zero _)⟩
    | succ m ih =>
      refine ⟨?_, ?_⟩
      · intro w i v0 v1 v2 hm
        refine cP_43 _ ?_
        have z4 := i.num
        have := i_lo p1
        have := i_hi p1
        refine ⟨vp_in_iff.mpr (by omega), ?_⟩
        intro w14 ew14
        have iw14 : JM w14 := ew14 ▸ JM.cell ⟨by decide, rfl⟩ i
        have zw14 := iw14.num
        refine ⟨fun h1261 => ?_, fun h1262 => ?_⟩
        · simp only [Int32.lt_iff_toInt_lt, Int32.le_iff_toInt_le, ← Int32.toInt_inj, Int32.reduceToInt] at h1261
          intro w17 ew17
          have iw17 : JM w17 := ew17 ▸ JM.size (by omega) iw14
          have zw17 := iw17.num
          have : (0 : Int32).toInt = 0 := rfl
          exact ih.2 _ _ iw17 (by first | omega | rfl | assumption) (by first | omega | rfl | assumption) (by first | omega | rfl | assumption) (by first | omega | rfl | assumption) (by omega)
        · simp only [Int32.lt_iff_toInt_lt, Int32.le_iff_toInt_le, ← Int32.toInt_inj, Int32.reduceToInt] at h1262
          intro w19 ew19
          have : (0 : Int32).toInt = 0 := rfl
          have iw19 : JM w19 := ew19 ▸ JM.size (by omega) iw14
          have zw19 := iw19.num
          exact ih.2 _ _ iw19 (by first | omega | rfl | assumption) (by first | omega | rfl | assumption) (by first | omega | rfl | assumption) (by first | omega | rfl | assumption) (by omega)
      · intro l4 w i v0 v1 v2 v3 hm
        refine cP_68 _ _ ?_
        have z4 := i.num
        refine ⟨fun h1263 => ?_, fun h1264 => ?_⟩
        · simp only [Int32.lt_iff_toInt_lt, Int32.le_iff_toInt_le, ← Int32.toInt_inj, Int32.reduceToInt] at h1263
          exact k _ _ i (by
            unfold a_sheet
            (repeat' split) <;> first | rfl | (exfalso; omega))
        · simp only [Int32.lt_iff_toInt_lt, Int32.le_iff_toInt_le, ← Int32.toInt_inj, Int32.reduceToInt] at h1264
          have : (40 : Int32).toInt = 40 := rfl
          have := i_lo p1
          have := i_hi p1
          have := i_mulL (c := (40 : Int32)) (v := 40) (x := p1) rfl (by omega) (by omega)
          have := i_lo l4
          have := i_hi l4
          have := i_add (x := ((40 : Int32) * p1)) (y := l4) (by omega) (by omega)
          refine ⟨vp_in_iff.mpr (by omega), ?_⟩
          intro w23 ew23
          have iw23 : JM w23 := ew23 ▸ JM.cell ⟨by decide, rfl⟩ i
          have zw23 := iw23.num
          have : (1 : Int32).toInt = 1 := rfl
          have := i_add (x := l4) (y := (1 : Int32)) (by omega) (by omega)
          exact ih.2 _ _ iw23 (by first | omega | rfl | assumption) (by first | omega | rfl | assumption) (by first | omega | rfl | assumption) (by first | omega | rfl | assumption) (by omega)
  refine cs_X5_isSheet (by omega) hG (fun r1 y1265 y1266 => ?_)
  refine ⟨fun h1267 => ?_, fun h1268 => ?_⟩
  · have h1267 : ¬ _ := fun q => y1266.mpr q h1267
    exact k _ _ i (by
      unfold a_sheet
      (repeat' split) <;> first | rfl | (exfalso; omega))
  · have h1268 := y1266.mp h1268
    refine cs_X5_within (by omega) hG (lo := -1) (hi := 2) rfl rfl (fun r4 z1269 y1270 => ?_)
    refine ⟨fun h1271 => ?_, fun h1272 => ?_⟩
    · have h1271 := y1270.mp h1271
      refine ⟨fun h1273 => ?_, fun h1274 => ?_⟩
      · simp only [Int32.lt_iff_toInt_lt, Int32.le_iff_toInt_le, ← Int32.toInt_inj, Int32.reduceToInt] at h1273
        refine ⟨fun h1275 => ?_, fun h1276 => ?_⟩
        · simp only [Int32.lt_iff_toInt_lt, Int32.le_iff_toInt_le, ← Int32.toInt_inj, Int32.reduceToInt] at h1275
          exact (key _).1 _ i (by first | omega | rfl | assumption) (by first | omega | rfl | assumption) (by first | omega | rfl | assumption) (Nat.lt_succ_self _)
        · simp only [Int32.lt_iff_toInt_lt, Int32.le_iff_toInt_le, ← Int32.toInt_inj, Int32.reduceToInt] at h1276
          refine ⟨fun h1277 => ?_, fun h1278 => ?_⟩
          · simp only [Int32.lt_iff_toInt_lt, Int32.le_iff_toInt_le, ← Int32.toInt_inj, Int32.reduceToInt] at h1277
            exact (key _).1 _ i (by first | omega | rfl | assumption) (by first | omega | rfl | assumption) (by first | omega | rfl | assumption) (Nat.lt_succ_self _)
          · simp only [Int32.lt_iff_toInt_lt, Int32.le_iff_toInt_le, ← Int32.toInt_inj, Int32.reduceToInt] at h1278
            exact k _ _ i (by
              unfold a_sheet
              (repeat' split) <;> first | rfl | (exfalso; omega))
      · simp only [Int32.lt_iff_toInt_lt, Int32.le_iff_toInt_le, ← Int32.toInt_inj, Int32.reduceToInt] at h1274
        refine ⟨fun h1279 => ?_, fun h1280 => ?_⟩
        · simp only [Int32.lt_iff_toInt_lt, Int32.le_iff_toInt_le, ← Int32.toInt_inj, Int32.reduceToInt] at h1279
          refine ⟨fun h1281 => ?_, fun h1282 => ?_⟩
          · simp only [Int32.lt_iff_toInt_lt, Int32.le_iff_toInt_le, ← Int32.toInt_inj, Int32.reduceToInt] at h1281
            exact (key _).1 _ i (by first | omega | rfl | assumption) (by first | omega | rfl | assumption) (by first | omega | rfl | assumption) (Nat.lt_succ_self _)
          · simp only [Int32.lt_iff_toInt_lt, Int32.le_iff_toInt_le, ← Int32.toInt_inj, Int32.reduceToInt] at h1282
            refine ⟨fun h1283 => ?_, fun h1284 => ?_⟩
            · simp only [Int32.lt_iff_toInt_lt, Int32.le_iff_toInt_le, ← Int32.toInt_inj, Int32.reduceToInt] at h1283
              exact (key _).1 _ i (by first | omega | rfl | assumption) (by first | omega | rfl | assumption) (by first | omega | rfl | assumption) (Nat.lt_succ_self _)
            · simp only [Int32.lt_iff_toInt_lt, Int32.le_iff_toInt_le, ← Int32.toInt_inj, Int32.reduceToInt] at h1284
              exact k _ _ i (by
                unfold a_sheet
                (repeat' split) <;> first | rfl | (exfalso; omega))
        · simp only [Int32.lt_iff_toInt_lt, Int32.le_iff_toInt_le, ← Int32.toInt_inj, Int32.reduceToInt] at h1280
          exact k _ _ i (by
            unfold a_sheet
            (repeat' split) <;> first | rfl | (exfalso; omega))
    · have h1272 : ¬ _ := fun q => y1270.mpr q h1272
      exact k _ _ i (by
        unfold a_sheet
        (repeat' split) <;> first | rfl | (exfalso; omega))

set_option maxRecDepth 20000 in
theorem jm_X5_film {Γ : Gx} {d : Nat} (hd : 7 ≤ d) (hG : GM Γ) {p1 : Int32} {p2 : Int32} {p3 : Int32} {w : Wd} (i : JM w) {Q : Int32 → Wd → Prop} (k : ∀ (r : Int32) (w' : Wd), JM w' → Q r w') : CI Γ d M_X5_film [.ref (gad Γ 0), .int p1, .int p2, .int p3] w Q := by
  obtain ⟨d, rfl⟩ : ∃ e, d = e + 1 := ⟨d - 1, by omega⟩
  refine con_X5_film hG ?_
  unfold wp_X5_film
  have zw := i.num
  intro P_43
  intro cP_43
  have key : ∀ m : Nat, (∀ (l4 : Int32) (w : Wd), JM w → (0 ≤ l4.toInt ∧ l4.toInt ≤ p3.toInt) → (0 ≤ p3.toInt ∧ p3.toInt ≤ 10) → (0 ≤ p1.toInt ∧ p1.toInt ≤ 3) → (0 ≤ p2.toInt ∧ p2.toInt ≤ 4) → ((11 - l4.toInt).toNat) < m → P_43 l4 w) := by
    intro m
    induction m with
    | zero => exact fun _ _ _ _ _ _ _ h => absurd h (Nat.not_lt_zero _)
    | succ m ih =>
      intro l4 w i v0 v1 v2 v3 hm
      refine cP_43 _ _ ?_
      have z4 := i.num
      refine ⟨fun h1285 => ?_, fun h1286 => ?_⟩
      · simp only [Int32.lt_iff_toInt_lt, Int32.le_iff_toInt_le, ← Int32.toInt_inj, Int32.reduceToInt] at h1285
        refine im_X5_restores (by omega) hG i (fun w16 iw16 => ?_)
        have tw16 : (w16 0 9).toInt = (w 0 9).toInt := congrArg Int32.toInt (congrArg Prod.fst iw16.1)
        have iw16 : JM w16 := JM.of iw16
        have zw16 := iw16.num
        exact k _ _ iw16
      · simp only [Int32.lt_iff_toInt_lt, Int32.le_iff_toInt_le, ← Int32.toInt_inj, Int32.reduceToInt] at h1286
        refine im_X5_passes (by omega) hG i (fun w18 iw18 => ?_)
        have tw18 : (w18 0 9).toInt = (w 0 9).toInt := congrArg Int32.toInt (congrArg Prod.fst iw18.1)
        have iw18 : JM w18 := JM.of iw18
        have zw18 := iw18.num
        have := i_lo p2
        have := i_hi p2
        refine ⟨vp_in_iff.mpr (by omega), ?_⟩
        have : (40 : Int32).toInt = 40 := rfl
        have := i_lo p1
        have := i_hi p1
        have := i_mulL (c := (40 : Int32)) (v := 40) (x := p1) rfl (by omega) (by omega)
        have := i_lo l4
        have := i_hi l4
        have := i_add (x := ((40 : Int32) * p1)) (y := l4) (by omega) (by omega)
        refine ⟨vp_in_iff.mpr (by omega), ?_⟩
        intro w21 ew21
        have iw21 : JM w21 := ew21 ▸ JM.cell ⟨by decide, rfl⟩ iw18
        have zw21 := iw21.num
        have : (1 : Int32).toInt = 1 := rfl
        have := i_add (x := l4) (y := (1 : Int32)) (by omega) (by omega)
        exact ih _ _ iw21 (by first | omega | rfl | assumption) (by first | omega | rfl | assumption) (by first | omega | rfl | assumption) (by first | omega | rfl | assumption) (by omega)
  refine cs_X5_isSheet (by omega) hG (fun r1 y1287 y1288 => ?_)
  refine ⟨fun h1289 => ?_, fun h1290 => ?_⟩
  · have h1289 : ¬ _ := fun q => y1288.mpr q h1289
    exact k _ _ i
  · have h1290 := y1288.mp h1290
    refine cs_X5_isOne (by omega) hG (by omega) (fun r4 y1291 y1292 => ?_)
    refine ⟨fun h1293 => ?_, fun h1294 => ?_⟩
    · have h1293 : ¬ _ := fun q => y1292.mpr q h1293
      exact k _ _ i
    · have h1294 := y1292.mp h1294
      refine cs_X5_within (by omega) hG (lo := 0) (hi := 10) rfl rfl (fun r7 z1295 y1296 => ?_)
      refine ⟨fun h1297 => ?_, fun h1298 => ?_⟩
      · have h1297 := y1296.mp h1297
        refine jm_X5_sheet (by omega) hG i (fun r10 w11 iw11 y1299 => ?_)
        have zw11 := iw11.num
        refine im_X5_keeps (by omega) hG iw11 (fun w13 iw13 => ?_)
        have tw13 : (w13 0 9).toInt = (w11 0 9).toInt := congrArg Int32.toInt (congrArg Prod.fst iw13.1)
        have iw13 : JM w13 := JM.of iw13
        have zw13 := iw13.num
        have : (0 : Int32).toInt = 0 := rfl
        exact (key _) _ _ iw13 (by first | omega | rfl | assumption) (by first | omega | rfl | assumption) (by first | omega | rfl | assumption) (by first | omega | rfl | assumption) (Nat.lt_succ_self _)
      · have h1298 : ¬ _ := fun q => y1296.mpr q h1298
        exact k _ _ i

set_option maxRecDepth 20000 in
theorem jm_X5_drawn {Γ : Gx} {d : Nat} (hd : 10 ≤ d) (hG : GM Γ) {p1 : Int32} {w : Wd} (i : JM w) {Q : Int32 → Wd → Prop} (k : ∀ (r : Int32) (w' : Wd), JM w' → Q r w') : CI Γ d M_X5_drawn [.ref (gad Γ 0), .int p1] w Q := by
  obtain ⟨d, rfl⟩ : ∃ e, d = e + 1 := ⟨d - 1, by omega⟩
  refine con_X5_drawn hG ?_
  unfold wp_X5_drawn
  have zw := i.num
  refine im_X5_byLot (by omega) hG i (fun r1 w2 iw2 => ?_)
  have tw2 : (w2 0 9).toInt = (w 0 9).toInt := congrArg Int32.toInt (congrArg Prod.fst iw2.1)
  have iw2 : JM w2 := JM.of iw2
  have zw2 := iw2.num
  exact k _ _ iw2

set_option maxRecDepth 20000 in
theorem jm_X5_image {Γ : Gx} {d : Nat} (hd : 1 ≤ d) (hG : GM Γ) {w : Wd} (i : JM w) {Q : Int32 → Wd → Prop} (k : ∀ (r : Int32) (w' : Wd), JM w' → Q r w') : CI Γ d M_X5_image [.ref (gad Γ 0)] w Q := by
  obtain ⟨d, rfl⟩ : ∃ e, d = e + 1 := ⟨d - 1, by omega⟩
  refine con_X5_image hG ?_
  unfold wp_X5_image
  have zw := i.num
  intro P_31
  intro P_57
  intro cP_31
  intro cP_57
  have key : ∀ m : Nat, (∀ (l1 : Int32) (w : Wd), JM w → (0 ≤ l1.toInt ∧ l1.toInt ≤ 8) → ((100 - l1.toInt).toNat) < m → P_31 l1 w) ∧ (∀ (l1 : Int32) (w : Wd), JM w → (0 ≤ l1.toInt ∧ l1.toInt ≤ 5) → ((6 - l1.toInt).toNat) < m → P_57 l1 w) := by
    intro m
    induction m with
    | zero => exact ⟨fun _ _ _ _ h => absurd h (Nat.not_lt_zero _), fun _ _ _ _ h => absurd h (Nat.not_lt_zero _)⟩
    | succ m ih =>
      refine ⟨?_, ?_⟩
      · intro l1 w i v0 hm
        refine cP_31 _ _ ?_
        have z4 := i.num
        refine ⟨fun h1300 => ?_, fun h1301 => ?_⟩
        · simp only [Int32.lt_iff_toInt_lt, Int32.le_iff_toInt_le, ← Int32.toInt_inj, Int32.reduceToInt] at h1300
          have : (0 : Int32).toInt = 0 := rfl
          exact ih.2 _ _ i (by first | omega | rfl | assumption) (by omega)
        · simp only [Int32.lt_iff_toInt_lt, Int32.le_iff_toInt_le, ← Int32.toInt_inj, Int32.reduceToInt] at h1301
          have := i_lo l1
          have := i_hi l1
          refine ⟨vp_in_iff.mpr (by omega), ?_⟩
          refine ⟨(i.2.2.2.2 _).1, ?_⟩
          intro w12 ew12
          have iw12 : JM w12 := ew12 ▸ JM.oldUsed (i.2.2.2.2 _).1 i
          have zw12 := iw12.num
          have : (1 : Int32).toInt = 1 := rfl
          have := i_add (x := l1) (y := (1 : Int32)) (by omega) (by omega)
          exact ih.1 _ _ iw12 (by first | omega | rfl | assumption) (by omega)
      · intro l1 w i v0 hm
        refine cP_57 _ _ ?_
        have z4 := i.num
        refine ⟨fun h1302 => ?_, fun h1303 => ?_⟩
        · simp only [Int32.lt_iff_toInt_lt, Int32.le_iff_toInt_le, ← Int32.toInt_inj, Int32.reduceToInt] at h1302
          exact k _ _ i
        · simp only [Int32.lt_iff_toInt_lt, Int32.le_iff_toInt_le, ← Int32.toInt_inj, Int32.reduceToInt] at h1303
          have := i_lo l1
          have := i_hi l1
          refine ⟨vp_in_iff.mpr (by omega), ?_⟩
          refine ⟨vp_in_iff.mpr (by omega), ?_⟩
          intro w17 ew17
          have iw17 : JM w17 := ew17 ▸ JM.cell ⟨by decide, rfl⟩ i
          have zw17 := iw17.num
          have : (5 : Int32).toInt = 5 := rfl
          have := i_add (x := (5 : Int32)) (y := l1) (by omega) (by omega)
          refine ⟨vp_in_iff.mpr (by omega), ?_⟩
          intro w20 ew20
          have iw20 : JM w20 := ew20 ▸ JM.cell ⟨by decide, rfl⟩ iw17
          have zw20 := iw20.num
          have : (1 : Int32).toInt = 1 := rfl
          have := i_add (x := l1) (y := (1 : Int32)) (by omega) (by omega)
          exact ih.2 _ _ iw20 (by first | omega | rfl | assumption) (by omega)
  intro w1 ew1
  have : (1 : Int32).toInt = 1 := rfl
  have iw1 : JM w1 := ew1 ▸ JM.m32 i
  have zw1 := iw1.num
  intro w3 ew3
  have iw3 : JM w3 := ew3 ▸ JM.m33 (by omega) iw1
  have zw3 := iw3.num
  intro w5 ew5
  have iw5 : JM w5 := ew5 ▸ JM.slot rfl iw3
  have zw5 := iw5.num
  intro w7 ew7
  have iw7 : JM w7 := ew7 ▸ JM.m35 (by omega) iw5
  have zw7 := iw7.num
  have : (0 : Int32).toInt = 0 := rfl
  exact (key _).1 _ _ iw7 (by first | omega | rfl | assumption) (Nat.lt_succ_self _)

set_option maxRecDepth 20000 in
theorem jm_X5_back {Γ : Gx} {d : Nat} (hd : 1 ≤ d) (hG : GM Γ) {w : Wd} (i : JM w) {Q : Int32 → Wd → Prop} (k : ∀ (r : Int32) (w' : Wd), JM w' → Q r w') : CI Γ d M_X5_back [.ref (gad Γ 0)] w Q := by
  obtain ⟨d, rfl⟩ : ∃ e, d = e + 1 := ⟨d - 1, by omega⟩
  refine con_X5_back hG ?_
  unfold wp_X5_back
  have zw := i.num
  intro P_36
  intro P_62
  intro cP_36
  intro cP_62
  have key : ∀ m : Nat, (∀ (l1 : Int32) (w : Wd), JM w → (0 ≤ l1.toInt ∧ l1.toInt ≤ 8) → ((100 - l1.toInt).toNat) < m → P_36 l1 w) ∧ (∀ (l1 : Int32) (w : Wd), JM w → (0 ≤ l1.toInt ∧ l1.toInt ≤ 5) → ((6 - l1.toInt).toNat) < m → P_62 l1 w) := by
    intro m
    induction m with
    | zero => exact ⟨fun _ _ _ _ h => absurd h (Nat.not_lt_zero _), fun _ _ _ _ h => absurd h (Nat.not_lt_zero _)⟩
    | succ m ih =>
      refine ⟨?_, ?_⟩
      · intro l1 w i v0 hm
        refine cP_36 _ _ ?_
        have z4 := i.num
        refine ⟨fun h1304 => ?_, fun h1305 => ?_⟩
        · simp only [Int32.lt_iff_toInt_lt, Int32.le_iff_toInt_le, ← Int32.toInt_inj, Int32.reduceToInt] at h1304
          have : (0 : Int32).toInt = 0 := rfl
          exact ih.2 _ _ i (by first | omega | rfl | assumption) (by omega)
        · simp only [Int32.lt_iff_toInt_lt, Int32.le_iff_toInt_le, ← Int32.toInt_inj, Int32.reduceToInt] at h1305
          have := i_lo l1
          have := i_hi l1
          refine ⟨vp_in_iff.mpr (by omega), ?_⟩
          refine ⟨(i.2.2.2.2 _).2, ?_⟩
          intro w11 ew11
          have iw11 : JM w11 := ew11 ▸ JM.used (i.2.2.2.2 _).2 i
          have zw11 := iw11.num
          have : (1 : Int32).toInt = 1 := rfl
          have := i_add (x := l1) (y := (1 : Int32)) (by omega) (by omega)
          exact ih.1 _ _ iw11 (by first | omega | rfl | assumption) (by omega)
      · intro l1 w i v0 hm
        refine cP_62 _ _ ?_
        have z4 := i.num
        refine ⟨fun h1306 => ?_, fun h1307 => ?_⟩
        · simp only [Int32.lt_iff_toInt_lt, Int32.le_iff_toInt_le, ← Int32.toInt_inj, Int32.reduceToInt] at h1306
          exact k _ _ i
        · simp only [Int32.lt_iff_toInt_lt, Int32.le_iff_toInt_le, ← Int32.toInt_inj, Int32.reduceToInt] at h1307
          have := i_lo l1
          have := i_hi l1
          refine ⟨vp_in_iff.mpr (by omega), ?_⟩
          refine ⟨vp_in_iff.mpr (by omega), ?_⟩
          intro w16 ew16
          have iw16 : JM w16 := ew16 ▸ JM.cell ⟨by decide, rfl⟩ i
          have zw16 := iw16.num
          have : (5 : Int32).toInt = 5 := rfl
          have := i_add (x := (5 : Int32)) (y := l1) (by omega) (by omega)
          refine ⟨vp_in_iff.mpr (by omega), ?_⟩
          intro w19 ew19
          have iw19 : JM w19 := ew19 ▸ JM.cell ⟨by decide, rfl⟩ iw16
          have zw19 := iw19.num
          have : (1 : Int32).toInt = 1 := rfl
          have := i_add (x := l1) (y := (1 : Int32)) (by omega) (by omega)
          exact ih.2 _ _ iw19 (by first | omega | rfl | assumption) (by omega)
  refine ⟨fun h1308 => ?_, fun h1309 => ?_⟩
  · simp only [Int32.lt_iff_toInt_lt, Int32.le_iff_toInt_le, ← Int32.toInt_inj, Int32.reduceToInt] at h1308
    intro w2 ew2
    have iw2 : JM w2 := ew2 ▸ JM.m2 (by omega) i
    have zw2 := iw2.num
    intro w4 ew4
    have iw4 : JM w4 := ew4 ▸ JM.slot rfl iw2
    have zw4 := iw4.num
    intro w6 ew6
    have iw6 : JM w6 := ew6 ▸ JM.m6 (by omega) iw4
    have zw6 := iw6.num
    have : (0 : Int32).toInt = 0 := rfl
    exact (key _).1 _ _ iw6 (by first | omega | rfl | assumption) (Nat.lt_succ_self _)
  · simp only [Int32.lt_iff_toInt_lt, Int32.le_iff_toInt_le, ← Int32.toInt_inj, Int32.reduceToInt] at h1309
    exact k _ _ i

set_option maxRecDepth 20000 in
theorem jm_X5_count {Γ : Gx} {d : Nat} (hd : 1 ≤ d) (hG : GM Γ) {p1 : Int32} {w : Wd} (i : JM w) {Q : Int32 → Wd → Prop} (k : ∀ (r : Int32) (w' : Wd), JM w' → Q r w') : CI Γ d M_X5_count [.ref (gad Γ 0), .int p1] w Q := by
  obtain ⟨d, rfl⟩ : ∃ e, d = e + 1 := ⟨d - 1, by omega⟩
  refine con_X5_count hG ?_
  unfold wp_X5_count
  have zw := i.num
  intro P_47
  intro cP_47
  have key : ∀ m : Nat, (∀ (l2 : Int32) (l3 : Int32) (w : Wd), JM w → (0 ≤ l3.toInt ∧ l3.toInt ≤ 8) → ((9 - l3.toInt).toNat) < m → P_47 l2 l3 w) := by
    intro m
    induction m with
    | zero => exact fun _ _ _ _ _ h => absurd h (Nat.not_lt_zero _)
    | succ m ih =>
      intro l2 l3 w i v0 hm
      refine cP_47 _ _ _ ?_
      have z4 := i.num
      refine ⟨fun h1310 => ?_, fun h1311 => ?_⟩
      · simp only [Int32.lt_iff_toInt_lt, Int32.le_iff_toInt_le, ← Int32.toInt_inj, Int32.reduceToInt] at h1310
        exact k _ _ i
      · simp only [Int32.lt_iff_toInt_lt, Int32.le_iff_toInt_le, ← Int32.toInt_inj, Int32.reduceToInt] at h1311
        have := i_lo l3
        have := i_hi l3
        refine ⟨vp_in_iff.mpr (by omega), ?_⟩
        refine ⟨fun h1312 => ?_, fun h1313 => ?_⟩
        · simp only [Int32.lt_iff_toInt_lt, Int32.le_iff_toInt_le, ← Int32.toInt_inj, Int32.reduceToInt] at h1312
          have : (1 : Int32).toInt = 1 := rfl
          have := i_add (x := l3) (y := (1 : Int32)) (by omega) (by omega)
          exact ih _ _ _ i (by first | omega | rfl | assumption) (by omega)
        · simp only [Int32.lt_iff_toInt_lt, Int32.le_iff_toInt_le, ← Int32.toInt_inj, Int32.reduceToInt] at h1313
          have : (1 : Int32).toInt = 1 := rfl
          have := i_add (x := l3) (y := (1 : Int32)) (by omega) (by omega)
          exact ih _ _ _ i (by first | omega | rfl | assumption) (by omega)
  refine ⟨fun h1314 => ?_, fun h1315 => ?_, fun h1316 => ?_, fun h1317 => ?_, fun h1318 => ?_, fun h1319 => ?_, fun h1320 => ?_⟩
  · simp only [Int32.lt_iff_toInt_lt, Int32.le_iff_toInt_le, ← Int32.toInt_inj, Int32.reduceToInt] at h1314
    exact k _ _ i
  · simp only [Int32.lt_iff_toInt_lt, Int32.le_iff_toInt_le, ← Int32.toInt_inj, Int32.reduceToInt] at h1315
    have : (0 : Int32).toInt = 0 := rfl
    exact (key _) _ _ _ i (by first | omega | rfl | assumption) (Nat.lt_succ_self _)
  · simp only [Int32.lt_iff_toInt_lt, Int32.le_iff_toInt_le, ← Int32.toInt_inj, Int32.reduceToInt] at h1316
    exact k _ _ i
  · simp only [Int32.lt_iff_toInt_lt, Int32.le_iff_toInt_le, ← Int32.toInt_inj, Int32.reduceToInt] at h1317
    exact k _ _ i
  · simp only [Int32.lt_iff_toInt_lt, Int32.le_iff_toInt_le, ← Int32.toInt_inj, Int32.reduceToInt] at h1318
    exact k _ _ i
  · simp only [Int32.lt_iff_toInt_lt, Int32.le_iff_toInt_le, ← Int32.toInt_inj, Int32.reduceToInt] at h1319
    exact k _ _ i
  · simp only [Int32.lt_iff_toInt_lt, Int32.le_iff_toInt_le, ← Int32.toInt_inj, Int32.reduceToInt] at h1320
    exact k _ _ i

set_option maxRecDepth 20000 in
theorem jm_X5_cell {Γ : Gx} {d : Nat} (hd : 3 ≤ d) (hG : GM Γ) {p1 : Int32} {p2 : Int32} {p3 : Int32} {w : Wd} (i : JM w) {Q : Int32 → Wd → Prop} (k : ∀ (r : Int32) (w' : Wd), JM w' → Q r w') : CI Γ d M_X5_cell [.ref (gad Γ 0), .int p1, .int p2, .int p3] w Q := by
  obtain ⟨d, rfl⟩ : ∃ e, d = e + 1 := ⟨d - 1, by omega⟩
  refine con_X5_cell hG ?_
  unfold wp_X5_cell
  have zw := i.num
  refine cs_X5_isSheet (by omega) hG (fun r1 y1321 y1322 => ?_)
  refine ⟨fun h1323 => ?_, fun h1324 => ?_⟩
  · have h1323 := y1322.mp h1323
    have := i_lo p1
    have := i_hi p1
    refine ⟨vp_in_iff.mpr (by omega), ?_⟩
    refine ⟨fun h1325 => ?_, fun h1326 => ?_⟩
    · simp only [Int32.lt_iff_toInt_lt, Int32.le_iff_toInt_le, ← Int32.toInt_inj, Int32.reduceToInt] at h1325
      have zs := i.2.2.2.1 p1.toNatClampNeg (tn_lt (by omega) (by omega))
      have := i_lo (w 18 (p1).toNatClampNeg)
      have := i_hi (w 18 (p1).toNatClampNeg)
      have : (1 : Int32).toInt = 1 := rfl
      have := i_sub (x := (w 18 (p1).toNatClampNeg)) (y := (1 : Int32)) (by omega) (by omega)
      refine cs_X5_within (by omega) hG (lo := 0) (hi := ((w 18 (p1).toNatClampNeg) - (1 : Int32)).toInt) rfl rfl (fun r6 z1327 y1328 => ?_)
      refine ⟨fun h1329 => ?_, fun h1330 => ?_⟩
      · have h1329 := y1328.mp h1329
        refine ⟨fun h1331 => ?_, fun h1332 => ?_⟩
        · simp only [Int32.lt_iff_toInt_lt, Int32.le_iff_toInt_le, ← Int32.toInt_inj, Int32.reduceToInt] at h1331
          refine ⟨fun h1333 => ?_, fun h1334 => ?_⟩
          · simp only [Int32.lt_iff_toInt_lt, Int32.le_iff_toInt_le, ← Int32.toInt_inj, Int32.reduceToInt] at h1333
            have : (40 : Int32).toInt = 40 := rfl
            have := i_mulL (c := (40 : Int32)) (v := 40) (x := p1) rfl (by omega) (by omega)
            have := i_lo p2
            have := i_hi p2
            have := i_add (x := ((40 : Int32) * p1)) (y := p2) (by omega) (by omega)
            refine ⟨vp_in_iff.mpr (by omega), ?_⟩
            intro w12 ew12
            have iw12 : JM w12 := ew12 ▸ JM.cell ⟨by decide, rfl⟩ i
            have zw12 := iw12.num
            exact k _ _ iw12
          · simp only [Int32.lt_iff_toInt_lt, Int32.le_iff_toInt_le, ← Int32.toInt_inj, Int32.reduceToInt] at h1334
            have : (40 : Int32).toInt = 40 := rfl
            have := i_mulL (c := (40 : Int32)) (v := 40) (x := p1) rfl (by omega) (by omega)
            have := i_lo p2
            have := i_hi p2
            have := i_add (x := ((40 : Int32) * p1)) (y := p2) (by omega) (by omega)
            refine ⟨vp_in_iff.mpr (by omega), ?_⟩
            intro w15 ew15
            have iw15 : JM w15 := ew15 ▸ JM.cell ⟨by decide, rfl⟩ i
            have zw15 := iw15.num
            exact k _ _ iw15
        · simp only [Int32.lt_iff_toInt_lt, Int32.le_iff_toInt_le, ← Int32.toInt_inj, Int32.reduceToInt] at h1332
          have : (40 : Int32).toInt = 40 := rfl
          have := i_mulL (c := (40 : Int32)) (v := 40) (x := p1) rfl (by omega) (by omega)
          have := i_lo p2
          have := i_hi p2
          have := i_add (x := ((40 : Int32) * p1)) (y := p2) (by omega) (by omega)
          refine ⟨vp_in_iff.mpr (by omega), ?_⟩
          intro w18 ew18
          have iw18 : JM w18 := ew18 ▸ JM.cell ⟨by decide, rfl⟩ i
          have zw18 := iw18.num
          exact k _ _ iw18
      · have h1330 : ¬ _ := fun q => y1328.mpr q h1330
        exact k _ _ i
    · simp only [Int32.lt_iff_toInt_lt, Int32.le_iff_toInt_le, ← Int32.toInt_inj, Int32.reduceToInt] at h1326
      exact k _ _ i
  · have h1324 : ¬ _ := fun q => y1322.mpr q h1324
    exact k _ _ i

set_option maxRecDepth 20000 in
theorem jm_X5_force {Γ : Gx} {d : Nat} (hd : 2 ≤ d) (hG : GM Γ) {p1 : Int32} {w : Wd} (i : JM w) {Q : Int32 → Wd → Prop} (k : ∀ (r : Int32) (w' : Wd), JM w' → Q r w') : CI Γ d M_X5_force [.ref (gad Γ 0), .int p1] w Q := by
  obtain ⟨d, rfl⟩ : ∃ e, d = e + 1 := ⟨d - 1, by omega⟩
  refine con_X5_force hG ?_
  unfold wp_X5_force
  have zw := i.num
  have := i_lo (w 0 9)
  have := i_hi (w 0 9)
  have : (1 : Int32).toInt = 1 := rfl
  have := i_sub (x := (w 0 9)) (y := (1 : Int32)) (by omega) (by omega)
  refine cs_X5_within (by omega) hG (lo := 0) (hi := ((w 0 9) - (1 : Int32)).toInt) rfl rfl (fun r1 z1335 y1336 => ?_)
  refine ⟨fun h1337 => ?_, fun h1338 => ?_⟩
  · have h1337 := y1336.mp h1337
    intro w4 ew4
    have iw4 : JM w4 := ew4 ▸ JM.m6 (by omega) i
    have zw4 := iw4.num
    exact k _ _ iw4
  · have h1338 : ¬ _ := fun q => y1336.mpr q h1338
    exact k _ _ i

set_option maxRecDepth 20000 in
theorem jm_X5_feed {Γ : Gx} {d : Nat} (hd : 2 ≤ d) (hG : GM Γ) {p1 : Int32} {w : Wd} (i : JM w) {Q : Int32 → Wd → Prop} (k : ∀ (r : Int32) (w' : Wd), JM w' → Q r w') : CI Γ d M_X5_feed [.ref (gad Γ 0), .int p1] w Q := by
  obtain ⟨d, rfl⟩ : ∃ e, d = e + 1 := ⟨d - 1, by omega⟩
  refine con_X5_feed hG ?_
  unfold wp_X5_feed
  have zw := i.num
  refine cs_X5_within (by omega) hG (lo := 0) (hi := 255) rfl rfl (fun r1 z1339 y1340 => ?_)
  refine ⟨fun h1341 => ?_, fun h1342 => ?_⟩
  · have h1341 := y1340.mp h1341
    refine ⟨fun h1343 => ?_, fun h1344 => ?_⟩
    · simp only [Int32.lt_iff_toInt_lt, Int32.le_iff_toInt_le, ← Int32.toInt_inj, Int32.reduceToInt] at h1343
      intro w5 ew5
      have := i_lo (w 0 7)
      have := i_hi (w 0 7)
      have : (1 : Int32).toInt = 1 := rfl
      have := i_add (x := (w 0 7)) (y := (1 : Int32)) (by omega) (by omega)
      have iw5 : JM w5 := ew5 ▸ JM.m7 (by omega) i
      have zw5 := iw5.num
      refine ⟨vp_in_iff.mpr (by omega), ?_⟩
      intro w8 ew8
      have iw8 : JM w8 := ew8 ▸ JM.tape iw5
      have zw8 := iw8.num
      exact k _ _ iw8
    · simp only [Int32.lt_iff_toInt_lt, Int32.le_iff_toInt_le, ← Int32.toInt_inj, Int32.reduceToInt] at h1344
      exact k _ _ i
  · have h1342 : ¬ _ := fun q => y1340.mpr q h1342
    exact k _ _ i
