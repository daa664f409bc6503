/-! what each method does, by program out of its bytecode (wp_..), and that the machine does it (con_..) -/
def wp_J6_bitCount_0f7a4 (Γ : Gx) (d : Nat) (p1 : Int32) (w : Wd) (Q : Int32 → Wd → Prop) : Prop :=
  (∀ v1 : Int32, v1 = (p1 - (((p1.toUInt32 >>> ((1 : Int32).toUInt32 &&& Int32.toUInt32 31)).toInt32) &&& (1431655765 : Int32))) → (∀ v3 : Int32, v3 = ((v1 &&& (858993459 : Int32)) + (((v1.toUInt32 >>> ((2 : Int32).toUInt32 &&& Int32.toUInt32 31)).toInt32) &&& (858993459 : Int32))) → (∀ v5 : Int32, v5 = ((v3 + ((v3.toUInt32 >>> ((4 : Int32).toUInt32 &&& Int32.toUInt32 31)).toInt32)) &&& (252645135 : Int32)) → (∀ v7 : Int32, v7 = (v5 + ((v5.toUInt32 >>> ((8 : Int32).toUInt32 &&& Int32.toUInt32 31)).toInt32)) → (∀ v9 : Int32, v9 = (v7 + ((v7.toUInt32 >>> ((16 : Int32).toUInt32 &&& Int32.toUInt32 31)).toInt32)) → Q (v9 &&& (63 : Int32)) w)))))
set_option maxRecDepth 20000 in
theorem con_J6_bitCount_0f7a4 {Γ : Gx} {d : Nat} (hG : GC Γ) {p1 : Int32}  {w : Wd} {Q : Int32 → Wd → Prop} (h : wp_J6_bitCount_0f7a4 Γ d p1 w Q) : CI Γ (d + 1) M_J6_bitCount_0f7a4 [.int p1] w Q := by
  have hC := hG.2.1
  refine Con.of RJ6 cJ6_bitCount_0f7a4 1 (some .int) [some (.int p1)] rfl rfl (by decide +kernel) hG.1 (catI cat0) (Nat.le_of_ble_eq_true rfl) rfl ?_
  intro X hO
  refine G_iload_n hO dJ6_bitCount_0f7a4_0 rfl rfl ?_
  refine G_iload_n hO dJ6_bitCount_0f7a4_1 rfl rfl ?_
  refine G_iconst (v := 1) hO dJ6_bitCount_0f7a4_2 rfl ?_
  refine G_iushr hO dJ6_bitCount_0f7a4_3 ?_
  refine G_ldc_w (v := 1431655765) hO dJ6_bitCount_0f7a4_4 kc_J6_265 ?_
  refine G_iand hO dJ6_bitCount_0f7a4_7 ?_
  refine G_isub hO dJ6_bitCount_0f7a4_8 ?_
  refine GG.nmi (fun v1 e2 => ?_)
  have h := h v1 e2
  refine G_istore_n (lv2 := [some (.int v1)]) hO dJ6_bitCount_0f7a4_9 rfl (by decide) rfl rfl ?_
  refine G_iload_n hO dJ6_bitCount_0f7a4_10 rfl rfl ?_
  refine G_ldc_w (v := 858993459) hO dJ6_bitCount_0f7a4_11 kc_J6_266 ?_
  refine G_iand hO dJ6_bitCount_0f7a4_14 ?_
  refine G_iload_n hO dJ6_bitCount_0f7a4_15 rfl rfl ?_
  refine GG.atpc (pc2 := 16) rfl ?_
  refine G_iconst (v := 2) hO dJ6_bitCount_0f7a4_16 rfl ?_
  refine G_iushr hO dJ6_bitCount_0f7a4_17 ?_
  refine G_ldc_w (v := 858993459) hO dJ6_bitCount_0f7a4_18 kc_J6_266 ?_
  refine G_iand hO dJ6_bitCount_0f7a4_21 ?_
  refine G_iadd hO dJ6_bitCount_0f7a4_22 ?_
  refine GG.nmi (fun v3 e4 => ?_)
  have h := h v3 e4
  refine G_istore_n (lv2 := [some (.int v3)]) hO dJ6_bitCount_0f7a4_23 rfl (by decide) rfl rfl ?_
  refine G_iload_n hO dJ6_bitCount_0f7a4_24 rfl rfl ?_
  refine G_iload_n hO dJ6_bitCount_0f7a4_25 rfl rfl ?_
  refine G_iconst (v := 4) hO dJ6_bitCount_0f7a4_26 rfl ?_
  refine G_iushr hO dJ6_bitCount_0f7a4_27 ?_
  refine G_iadd hO dJ6_bitCount_0f7a4_28 ?_
  refine G_ldc_w (v := 252645135) hO dJ6_bitCount_0f7a4_29 kc_J6_267 ?_
  refine GG.atpc (pc2 := 32) rfl ?_
  refine G_iand hO dJ6_bitCount_0f7a4_32 ?_
  refine GG.nmi (fun v5 e6 => ?_)
  have h := h v5 e6
  refine G_istore_n (lv2 := [some (.int v5)]) hO dJ6_bitCount_0f7a4_33 rfl (by decide) rfl rfl ?_
  refine G_iload_n hO dJ6_bitCount_0f7a4_34 rfl rfl ?_
  refine G_iload_n hO dJ6_bitCount_0f7a4_35 rfl rfl ?_
  refine G_bipush (v := 8) hO dJ6_bitCount_0f7a4_36 rfl ?_
  refine G_iushr hO dJ6_bitCount_0f7a4_38 ?_
  refine G_iadd hO dJ6_bitCount_0f7a4_39 ?_
  refine GG.nmi (fun v7 e8 => ?_)
  have h := h v7 e8
  refine G_istore_n (lv2 := [some (.int v7)]) hO dJ6_bitCount_0f7a4_40 rfl (by decide) rfl rfl ?_
  refine G_iload_n hO dJ6_bitCount_0f7a4_41 rfl rfl ?_
  refine G_iload_n hO dJ6_bitCount_0f7a4_42 rfl rfl ?_
  refine G_bipush (v := 16) hO dJ6_bitCount_0f7a4_43 rfl ?_
  refine G_iushr hO dJ6_bitCount_0f7a4_45 ?_
  refine GG.atpc (pc2 := 46) rfl ?_
  refine G_iadd hO dJ6_bitCount_0f7a4_46 ?_
  refine GG.nmi (fun v9 e10 => ?_)
  have h := h v9 e10
  refine G_istore_n (lv2 := [some (.int v9)]) hO dJ6_bitCount_0f7a4_47 rfl (by decide) rfl rfl ?_
  refine G_iload_n hO dJ6_bitCount_0f7a4_48 rfl rfl ?_
  refine G_bipush (v := 63) hO dJ6_bitCount_0f7a4_49 rfl ?_
  refine G_iand hO dJ6_bitCount_0f7a4_51 ?_
  exact G_iret hO dJ6_bitCount_0f7a4_52 rfl rfl (QI.i h)
def wp_J3_checkIndex_8e157 (Γ : Gx) (d : Nat) (p1 : Int32) (p2 : Int32) (p3 : Value) (w : Wd) (Q : Int32 → Wd → Prop) : Prop :=
  ((p1 < 0 → False) ∧ (¬ p1 < 0 → ((p1 < p2 → Q p1 w) ∧ (¬ p1 < p2 → False))))
set_option maxRecDepth 20000 in
theorem con_J3_checkIndex_8e157 {Γ : Gx} {d : Nat} (hG : GC Γ) {p1 : Int32} {p2 : Int32} {p3 : Value} (hv3 : p3.category = 1) {w : Wd} {Q : Int32 → Wd → Prop} (h : wp_J3_checkIndex_8e157 Γ d p1 p2 p3 w Q) : CI Γ (d + 1) M_J3_checkIndex_8e157 [.int p1, .int p2, p3] w Q := by
  have hC := hG.2.1
  refine Con.of RJ3 cJ3_checkIndex_8e157 3 (some .int) [some (.int p1), some (.int p2), some (p3)] rfl rfl (by decide +kernel) hG.1 (catI (catI (catV hv3 cat0))) (Nat.le_of_ble_eq_true rfl) rfl ?_
  intro X hO
  refine G_iload_n hO dJ3_checkIndex_8e157_0 rfl rfl ?_
  refine G_if_lt (tgt := 9) hO dJ3_checkIndex_8e157_1 (by decide) (fun c1 => ?_) (fun c1 => ?_)
  · have h := h.1 c1
    exact h.elim
  · have h := h.2 c1
    refine G_iload_n hO dJ3_checkIndex_8e157_4 rfl rfl ?_
    refine G_iload_n hO dJ3_checkIndex_8e157_5 rfl rfl ?_
    refine G_icmp_lt (tgt := 16) hO dJ3_checkIndex_8e157_6 (by decide) (fun c2 => ?_) (fun c2 => ?_)
    · have h := h.1 c2
      refine G_iload_n hO dJ3_checkIndex_8e157_16 rfl rfl ?_
      exact G_iret hO dJ3_checkIndex_8e157_17 rfl rfl (QI.i h)
    · have h := h.2 c2
      exact h.elim
def wp_J0_length_8abf5 (Γ : Gx) (d : Nat) (kx : Nat) (w : Wd) (Q : Int32 → Wd → Prop) : Prop :=
  CI Γ d M_J0_coder_7d493 [.ref (gad Γ (100 + kx))] w (fun r1 w2 => Q ((nI (strN kx)) >>> (r1 &&& 31)) w2)
set_option maxRecDepth 20000 in
theorem con_J0_length_8abf5 {Γ : Gx} {d : Nat} (hG : GC Γ) {kx : Nat} (hk : kx < 3) {w : Wd} {Q : Int32 → Wd → Prop} (h : wp_J0_length_8abf5 Γ d kx w Q) : CI Γ (d + 1) M_J0_length_8abf5 [.ref (gad Γ (100 + kx))] w Q := by
  have hC := hG.2.1
  refine Con.of RJ0 cJ0_length_8abf5 1 (some .int) [some (.ref (gad Γ (100 + kx)))] rfl rfl (by decide +kernel) hG.1 (catR cat0) (Nat.le_of_ble_eq_true rfl) rfl ?_
  intro X hO
  refine G_aload_n hO dJ0_length_8abf5_0 rfl rfl ?_
  refine G_strVal hO (hG.x hO) dJ0_length_8abf5_1 hk ?_
  refine G_strLen hO (hG.x hO) dJ0_length_8abf5_4 hk ?_
  refine G_aload_n hO dJ0_length_8abf5_5 rfl rfl ?_
  refine G_callT hO (hG.x hO) dJ0_length_8abf5_6 hk h cl_J0_335 rfl (Nat.le_of_ble_eq_true rfl) (fun r1 w2 h => ?_) rfl
  refine G_ishr hO dJ0_length_8abf5_9 ?_
  exact G_iret hO dJ0_length_8abf5_10 rfl rfl (QI.i h)
def wp_J0_charAt_5068e (Γ : Gx) (d : Nat) (kx : Nat) (p1 : Int32) (w : Wd) (Q : Int32 → Wd → Prop) : Prop :=
  CI Γ d M_J0_isLatin1_aae02 [.ref (gad Γ (100 + kx))] w (fun r1 w2 => ((r1 = 0 → False) ∧ (¬ r1 = 0 → CI Γ d M_J1_charAt_3b067 [.ref (gad Γ (110 + kx)), .int p1] w2 (fun r4 w5 => (narrow .char (.int r4) = .int r4 ∧ Q r4 w5)))))
set_option maxRecDepth 20000 in
theorem con_J0_charAt_5068e {Γ : Gx} {d : Nat} (hG : GC Γ) {kx : Nat} {p1 : Int32} (hk : kx < 3) {w : Wd} {Q : Int32 → Wd → Prop} (h : wp_J0_charAt_5068e Γ d kx p1 w Q) : CI Γ (d + 1) M_J0_charAt_5068e [.ref (gad Γ (100 + kx)), .int p1] w Q := by
  have hC := hG.2.1
  refine Con.of RJ0 cJ0_charAt_5068e 2 (some .char) [some (.ref (gad Γ (100 + kx))), some (.int p1)] rfl rfl (by decide +kernel) hG.1 (catR (catI cat0)) (Nat.le_of_ble_eq_true rfl) rfl ?_
  intro X hO
  refine G_aload_n hO dJ0_charAt_5068e_0 rfl rfl ?_
  refine G_callT hO (hG.x hO) dJ0_charAt_5068e_1 hk h cl_J0_492 rfl (Nat.le_of_ble_eq_true rfl) (fun r1 w2 h => ?_) rfl
  refine G_if_eq (tgt := 16) hO dJ0_charAt_5068e_4 (by decide) (fun c3 => ?_) (fun c3 => ?_)
  · have h := h.1 c3
    refine G_aload_n hO dJ0_charAt_5068e_16 rfl rfl ?_
    refine G_strVal hO (hG.x hO) dJ0_charAt_5068e_17 hk ?_
    refine G_iload_n hO dJ0_charAt_5068e_20 rfl rfl ?_
    exact h.elim
  · have h := h.2 c3
    refine G_aload_n hO dJ0_charAt_5068e_7 rfl rfl ?_
    refine G_strVal hO (hG.x hO) dJ0_charAt_5068e_8 hk ?_
    refine G_iload_n hO dJ0_charAt_5068e_11 rfl rfl ?_
    refine G_callSi hO dJ0_charAt_5068e_12 h cl_J0_495 rfl (Nat.le_of_ble_eq_true rfl) (fun r4 w5 h => ?_) rfl
    exact G_iret hO dJ0_charAt_5068e_15 rfl h.1 (QI.i h.2)
def wp_J0_indexOf_0f7a4 (Γ : Gx) (d : Nat) (kx : Nat) (p1 : Int32) (w : Wd) (Q : Int32 → Wd → Prop) : Prop :=
  CI Γ d M_J0_indexOf_7cf53 [.ref (gad Γ (100 + kx)), .int p1, .int (0 : Int32)] w (fun r1 w2 => Q r1 w2)
set_option maxRecDepth 20000 in
theorem con_J0_indexOf_0f7a4 {Γ : Gx} {d : Nat} (hG : GC Γ) {kx : Nat} {p1 : Int32} (hk : kx < 3) {w : Wd} {Q : Int32 → Wd → Prop} (h : wp_J0_indexOf_0f7a4 Γ d kx p1 w Q) : CI Γ (d + 1) M_J0_indexOf_0f7a4 [.ref (gad Γ (100 + kx)), .int p1] w Q := by
  have hC := hG.2.1
  refine Con.of RJ0 cJ0_indexOf_0f7a4 2 (some .int) [some (.ref (gad Γ (100 + kx))), some (.int p1)] rfl rfl (by decide +kernel) hG.1 (catR (catI cat0)) (Nat.le_of_ble_eq_true rfl) rfl ?_
  intro X hO
  refine G_aload_n hO dJ0_indexOf_0f7a4_0 rfl rfl ?_
  refine G_iload_n hO dJ0_indexOf_0f7a4_1 rfl rfl ?_
  refine G_iconst (v := 0) hO dJ0_indexOf_0f7a4_2 rfl ?_
  refine G_callT hO (hG.x hO) dJ0_indexOf_0f7a4_3 hk h cl_J0_633 rfl (Nat.le_of_ble_eq_true rfl) (fun r1 w2 h => ?_) rfl
  exact G_iret hO dJ0_indexOf_0f7a4_6 rfl rfl (QI.i h)
def wp_J0_indexOf_7cf53 (Γ : Gx) (d : Nat) (kx : Nat) (p1 : Int32) (p2 : Int32) (w : Wd) (Q : Int32 → Wd → Prop) : Prop :=
  CI Γ d M_J0_isLatin1_aae02 [.ref (gad Γ (100 + kx))] w (fun r1 w2 => ((r1 = 0 → CI Γ d M_J0_length_8abf5 [.ref (gad Γ (100 + kx))] w2 (fun r4 w5 => False)) ∧ (¬ r1 = 0 → CI Γ d M_J0_length_8abf5 [.ref (gad Γ (100 + kx))] w2 (fun r6 w7 => CI Γ d M_J1_indexOf_4cfef [.ref (gad Γ (110 + kx)), .int p1, .int p2, .int r6] w7 (fun r8 w9 => Q r8 w9)))))
set_option maxRecDepth 20000 in
theorem con_J0_indexOf_7cf53 {Γ : Gx} {d : Nat} (hG : GC Γ) {kx : Nat} {p1 : Int32} {p2 : Int32} (hk : kx < 3) {w : Wd} {Q : Int32 → Wd → Prop} (h : wp_J0_indexOf_7cf53 Γ d kx p1 p2 w Q) : CI Γ (d + 1) M_J0_indexOf_7cf53 [.ref (gad Γ (100 + kx)), .int p1, .int p2] w Q := by
  have hC := hG.2.1
  refine Con.of RJ0 cJ0_indexOf_7cf53 3 (some .int) [some (.ref (gad Γ (100 + kx))), some (.int p1), some (.int p2)] rfl rfl (by decide +kernel) hG.1 (catR (catI (catI cat0))) (Nat.le_of_ble_eq_true rfl) rfl ?_
  intro X hO
  refine G_aload_n hO dJ0_indexOf_7cf53_0 rfl rfl ?_
  refine G_callT hO (hG.x hO) dJ0_indexOf_7cf53_1 hk h cl_J0_492 rfl (Nat.le_of_ble_eq_true rfl) (fun r1 w2 h => ?_) rfl
  refine G_if_eq (tgt := 23) hO dJ0_indexOf_7cf53_4 (by decide) (fun c3 => ?_) (fun c3 => ?_)
  · have h := h.1 c3
    refine G_aload_n hO dJ0_indexOf_7cf53_23 rfl rfl ?_
    refine G_strVal hO (hG.x hO) dJ0_indexOf_7cf53_24 hk ?_
    refine G_iload_n hO dJ0_indexOf_7cf53_27 rfl rfl ?_
    refine G_iload_n hO dJ0_indexOf_7cf53_28 rfl rfl ?_
    refine G_aload_n hO dJ0_indexOf_7cf53_29 rfl rfl ?_
    refine G_callT hO (hG.x hO) dJ0_indexOf_7cf53_30 hk h cl_J0_505 rfl (Nat.le_of_ble_eq_true rfl) (fun r4 w5 h => ?_) rfl
    exact h.elim
  · have h := h.2 c3
    refine G_aload_n hO dJ0_indexOf_7cf53_7 rfl rfl ?_
    refine G_strVal hO (hG.x hO) dJ0_indexOf_7cf53_8 hk ?_
    refine G_iload_n hO dJ0_indexOf_7cf53_11 rfl rfl ?_
    refine G_iload_n hO dJ0_indexOf_7cf53_12 rfl rfl ?_
    refine G_aload_n hO dJ0_indexOf_7cf53_13 rfl rfl ?_
    refine G_callT hO (hG.x hO) dJ0_indexOf_7cf53_14 hk h cl_J0_505 rfl (Nat.le_of_ble_eq_true rfl) (fun r6 w7 h => ?_) rfl
    refine G_callSi hO dJ0_indexOf_7cf53_17 h cl_J0_637 rfl (Nat.le_of_ble_eq_true rfl) (fun r8 w9 h => ?_) rfl
    refine G_goto (tgt := 36) hO dJ0_indexOf_7cf53_20 (by decide) ?_
    exact G_iret hO dJ0_indexOf_7cf53_36 rfl rfl (QI.i h)
def wp_J0_coder_7d493 (Γ : Gx) (d : Nat) (kx : Nat) (w : Wd) (Q : Int32 → Wd → Prop) : Prop :=
  Q (0 : Int32) w
set_option maxRecDepth 20000 in
theorem con_J0_coder_7d493 {Γ : Gx} {d : Nat} (hG : GC Γ) {kx : Nat} (hk : kx < 3) {w : Wd} {Q : Int32 → Wd → Prop} (h : wp_J0_coder_7d493 Γ d kx w Q) : CI Γ (d + 1) M_J0_coder_7d493 [.ref (gad Γ (100 + kx))] w Q := by
  have hC := hG.2.1
  refine Con.of RJ0 cJ0_coder_7d493 1 (some .byte) [some (.ref (gad Γ (100 + kx)))] rfl rfl (by decide +kernel) hG.1 (catR cat0) (Nat.le_of_ble_eq_true rfl) rfl ?_
  intro X hO
  refine G_compact hO (hG.x hO) dJ0_coder_7d493_0 ?_
  refine G_if_eq (tgt := 13) hO dJ0_coder_7d493_3 (by decide) (fun c => absurd c (by decide)) (fun _ => ?_)
  refine G_aload_n hO dJ0_coder_7d493_6 rfl rfl ?_
  refine G_strCod hO (hG.x hO) dJ0_coder_7d493_7 hk ?_
  refine G_goto (tgt := 14) hO dJ0_coder_7d493_10 (by decide) ?_
  exact G_iret hO dJ0_coder_7d493_14 rfl rfl (QI.i h)
def wp_J0_isLatin1_aae02 (Γ : Gx) (d : Nat) (kx : Nat) (w : Wd) (Q : Int32 → Wd → Prop) : Prop :=
  Q (1 : Int32) w
set_option maxRecDepth 20000 in
theorem con_J0_isLatin1_aae02 {Γ : Gx} {d : Nat} (hG : GC Γ) {kx : Nat} (hk : kx < 3) {w : Wd} {Q : Int32 → Wd → Prop} (h : wp_J0_isLatin1_aae02 Γ d kx w Q) : CI Γ (d + 1) M_J0_isLatin1_aae02 [.ref (gad Γ (100 + kx))] w Q := by
  have hC := hG.2.1
  refine Con.of RJ0 cJ0_isLatin1_aae02 1 (some .boolean) [some (.ref (gad Γ (100 + kx)))] rfl rfl (by decide +kernel) hG.1 (catR cat0) (Nat.le_of_ble_eq_true rfl) rfl ?_
  intro X hO
  refine G_compact hO (hG.x hO) dJ0_isLatin1_aae02_0 ?_
  refine G_if_eq (tgt := 17) hO dJ0_isLatin1_aae02_3 (by decide) (fun c => absurd c (by decide)) (fun _ => ?_)
  refine G_aload_n hO dJ0_isLatin1_aae02_6 rfl rfl ?_
  refine G_strCod hO (hG.x hO) dJ0_isLatin1_aae02_7 hk ?_
  refine G_if_ne (tgt := 17) hO dJ0_isLatin1_aae02_10 (by decide) (fun c => absurd c (by decide)) (fun _ => ?_)
  refine G_iconst (v := 1) hO dJ0_isLatin1_aae02_13 rfl ?_
  refine G_goto (tgt := 18) hO dJ0_isLatin1_aae02_14 (by decide) ?_
  exact G_iret hO dJ0_isLatin1_aae02_18 rfl rfl (QI.i h)
def wp_J0_checkIndex_df160 (Γ : Gx) (d : Nat) (p1 : Int32) (p2 : Int32) (w : Wd) (Q : Wd → Prop) : Prop :=
  (∀ vq1 : Value, vq1.category = 1 → CI Γ d M_J3_checkIndex_8e157 [.int p1, .int p2, vq1] w (fun r3 w4 => Q w4))
set_option maxRecDepth 20000 in
theorem con_J0_checkIndex_df160 {Γ : Gx} {d : Nat} (hG : GC Γ) {p1 : Int32} {p2 : Int32}  {w : Wd} {Q : Wd → Prop} (h : wp_J0_checkIndex_df160 Γ d p1 p2 w Q) : CV Γ (d + 1) M_J0_checkIndex_df160 [.int p1, .int p2] w Q := by
  have hC := hG.2.1
  refine Con.of RJ0 cJ0_checkIndex_df160 2 none [some (.int p1), some (.int p2)] rfl rfl (by decide +kernel) hG.1 (catI (catI cat0)) (Nat.le_of_ble_eq_true rfl) rfl ?_
  intro X hO
  refine G_iload_n hO dJ0_checkIndex_df160_0 rfl rfl ?_
  refine G_iload_n hO dJ0_checkIndex_df160_1 rfl rfl ?_
  refine G_sioobe hO (hG.x hO) dJ0_checkIndex_df160_2 (fun vq1 hq2 => ?_)
  have h := h vq1 hq2
  refine G_callSi hO dJ0_checkIndex_df160_5 h cl_J0_1059 rfl (Nat.le_of_ble_eq_true rfl) (fun r3 w4 h => ?_) rfl
  refine G_pop hO dJ0_checkIndex_df160_8 rfl ?_
  exact G_vret hO dJ0_checkIndex_df160_9 rfl (QV.i h)
def wp_J1_charAt_3b067 (Γ : Gx) (d : Nat) (kx : Nat) (p2 : Int32) (w : Wd) (Q : Int32 → Wd → Prop) : Prop :=
  CV Γ d M_J0_checkIndex_df160 [.int p2, .int (nI (strN kx))] w (fun w2 => (vp_in p2 (strN kx) ∧ (narrow .char (.int ((((strB kx (p2).toNatClampNeg) &&& (255 : Int32)).toUInt32 % 65536).toInt32)) = .int ((((strB kx (p2).toNatClampNeg) &&& (255 : Int32)).toUInt32 % 65536).toInt32) ∧ Q ((((strB kx (p2).toNatClampNeg) &&& (255 : Int32)).toUInt32 % 65536).toInt32) w2)))
set_option maxRecDepth 20000 in
theorem con_J1_charAt_3b067 {Γ : Gx} {d : Nat} (hG : GC Γ) {kx : Nat} {p2 : Int32} (hk : kx < 3) {w : Wd} {Q : Int32 → Wd → Prop} (h : wp_J1_charAt_3b067 Γ d kx p2 w Q) : CI Γ (d + 1) M_J1_charAt_3b067 [.ref (gad Γ (110 + kx)), .int p2] w Q := by
  have hC := hG.2.1
  refine Con.of RJ1 cJ1_charAt_3b067 2 (some .char) [some (.ref (gad Γ (110 + kx))), some (.int p2)] rfl rfl (by decide +kernel) hG.1 (catR (catI cat0)) (Nat.le_of_ble_eq_true rfl) rfl ?_
  intro X hO
  refine G_iload_n hO dJ1_charAt_3b067_0 rfl rfl ?_
  refine G_aload_n hO dJ1_charAt_3b067_1 rfl rfl ?_
  refine G_strLen hO (hG.x hO) dJ1_charAt_3b067_2 hk ?_
  refine G_callSv hO dJ1_charAt_3b067_3 h cl_J1_9 rfl (Nat.le_of_ble_eq_true rfl) (fun w2 h => ?_) rfl
  refine G_aload_n hO dJ1_charAt_3b067_6 rfl rfl ?_
  refine G_iload_n hO dJ1_charAt_3b067_7 rfl rfl ?_
  obtain ⟨c3, h⟩ := h
  refine G_strLd hO (hG.x hO) dJ1_charAt_3b067_8 hk c3 ?_
  refine G_sipush (v := 255) hO dJ1_charAt_3b067_9 rfl ?_
  refine G_iand hO dJ1_charAt_3b067_12 ?_
  refine G_i2c hO dJ1_charAt_3b067_13 ?_
  exact G_iret hO dJ1_charAt_3b067_14 rfl h.1 (QI.i h.2)
def wp_J1_canEncode_9a6ad (Γ : Gx) (d : Nat) (p1 : Int32) (w : Wd) (Q : Int32 → Wd → Prop) : Prop :=
  ((p1 < 0 → Q (0 : Int32) w) ∧ (¬ p1 < 0 → (((255 : Int32) < p1 → Q (0 : Int32) w) ∧ (¬ (255 : Int32) < p1 → Q (1 : Int32) w))))
set_option maxRecDepth 20000 in
theorem con_J1_canEncode_9a6ad {Γ : Gx} {d : Nat} (hG : GC Γ) {p1 : Int32}  {w : Wd} {Q : Int32 → Wd → Prop} (h : wp_J1_canEncode_9a6ad Γ d p1 w Q) : CI Γ (d + 1) M_J1_canEncode_9a6ad [.int p1] w Q := by
  have hC := hG.2.1
  refine Con.of RJ1 cJ1_canEncode_9a6ad 1 (some .boolean) [some (.int p1)] rfl rfl (by decide +kernel) hG.1 (catI cat0) (Nat.le_of_ble_eq_true rfl) rfl ?_
  intro X hO
  refine G_iload_n hO dJ1_canEncode_9a6ad_0 rfl rfl ?_
  refine G_if_lt (tgt := 15) hO dJ1_canEncode_9a6ad_1 (by decide) (fun c1 => ?_) (fun c1 => ?_)
  · have h := h.1 c1
    refine G_iconst (v := 0) hO dJ1_canEncode_9a6ad_15 rfl ?_
    exact G_iret hO dJ1_canEncode_9a6ad_16 rfl rfl (QI.i h)
  · have h := h.2 c1
    refine G_iload_n hO dJ1_canEncode_9a6ad_4 rfl rfl ?_
    refine G_sipush (v := 255) hO dJ1_canEncode_9a6ad_5 rfl ?_
    refine G_icmp_gt (tgt := 15) hO dJ1_canEncode_9a6ad_8 (by decide) (fun c2 => ?_) (fun c2 => ?_)
    · have h := h.1 c2
      refine G_iconst (v := 0) hO dJ1_canEncode_9a6ad_15 rfl ?_
      exact G_iret hO dJ1_canEncode_9a6ad_16 rfl rfl (QI.i h)
    · have h := h.2 c2
      refine G_iconst (v := 1) hO dJ1_canEncode_9a6ad_11 rfl ?_
      refine G_goto (tgt := 16) hO dJ1_canEncode_9a6ad_12 (by decide) ?_
      exact G_iret hO dJ1_canEncode_9a6ad_16 rfl rfl (QI.i h)
def wp_J1_indexOf_4cfef (Γ : Gx) (d : Nat) (kx : Nat) (p2 : Int32) (p3 : Int32) (p4 : Int32) (w : Wd) (Q : Int32 → Wd → Prop) : Prop :=
  CI Γ d M_J1_canEncode_9a6ad [.int p2] w (fun r1 w2 => ((¬ r1 = 0 → (∀ v4 : Int32, v4 = (if p3 < (0 : Int32) then (0 : Int32) else p3) → (∀ v6 : Int32, v6 = (if (nI (strN kx)) < p4 then (nI (strN kx)) else p4) → ((v4 < v6 → CI Γ d M_J1_indexOfChar_4cfef [.ref (gad Γ (110 + kx)), .int p2, .int v4, .int v6] w2 (fun r9 w10 => Q r9 w10)) ∧ (¬ v4 < v6 → Q (-1 : Int32) w2))))) ∧ (r1 = 0 → Q (-1 : Int32) w2)))
set_option maxRecDepth 20000 in
theorem con_J1_indexOf_4cfef {Γ : Gx} {d : Nat} (hG : GC Γ) {kx : Nat} {p2 : Int32} {p3 : Int32} {p4 : Int32} (hk : kx < 3) {w : Wd} {Q : Int32 → Wd → Prop} (h : wp_J1_indexOf_4cfef Γ d kx p2 p3 p4 w Q) : CI Γ (d + 1) M_J1_indexOf_4cfef [.ref (gad Γ (110 + kx)), .int p2, .int p3, .int p4] w Q := by
  have hC := hG.2.1
  refine Con.of RJ1 cJ1_indexOf_4cfef 4 (some .int) [some (.ref (gad Γ (110 + kx))), some (.int p2), some (.int p3), some (.int p4)] rfl rfl (by decide +kernel) hG.1 (catR (catI (catI (catI cat0)))) (Nat.le_of_ble_eq_true rfl) rfl ?_
  intro X hO
  refine G_iload_n hO dJ1_indexOf_4cfef_0 rfl rfl ?_
  refine G_callSi hO dJ1_indexOf_4cfef_1 h cl_J1_88 rfl (Nat.le_of_ble_eq_true rfl) (fun r1 w2 h => ?_) rfl
  refine G_if_ne (tgt := 9) hO dJ1_indexOf_4cfef_4 (by decide) (fun c3 => ?_) (fun c3 => ?_)
  · have h := h.1 c3
    refine G_iload_n hO dJ1_indexOf_4cfef_9 rfl rfl ?_
    refine G_iconst (v := 0) hO dJ1_indexOf_4cfef_10 rfl ?_
    refine G_mmax hO dJ1_indexOf_4cfef_11 ml_J1_92 (Nat.le_of_ble_eq_true rfl) ?_
    refine GG.nmi (fun v4 e5 => ?_)
    have h := h v4 e5
    refine G_istore_n (lv2 := [some (.ref (gad Γ (110 + kx))), some (.int p2), some (.int v4), some (.int p4)]) hO dJ1_indexOf_4cfef_14 rfl (by decide) rfl rfl ?_
    refine G_iload_n hO dJ1_indexOf_4cfef_15 rfl rfl ?_
    refine G_aload_n hO dJ1_indexOf_4cfef_16 rfl rfl ?_
    refine G_strLen hO (hG.x hO) dJ1_indexOf_4cfef_17 hk ?_
    refine G_mmin hO dJ1_indexOf_4cfef_18 ml_J1_38 (Nat.le_of_ble_eq_true rfl) ?_
    refine GG.nmi (fun v6 e7 => ?_)
    have h := h v6 e7
    refine G_istore_n (lv2 := [some (.ref (gad Γ (110 + kx))), some (.int p2), some (.int v4), some (.int v6)]) hO dJ1_indexOf_4cfef_21 rfl (by decide) rfl rfl ?_
    refine G_iload_n hO dJ1_indexOf_4cfef_22 rfl rfl ?_
    refine G_iload_n hO dJ1_indexOf_4cfef_23 rfl rfl ?_
    refine G_icmp_lt (tgt := 29) hO dJ1_indexOf_4cfef_24 (by decide) (fun c8 => ?_) (fun c8 => ?_)
    · have h := h.1 c8
      refine G_aload_n hO dJ1_indexOf_4cfef_29 rfl rfl ?_
      refine G_iload_n hO dJ1_indexOf_4cfef_30 rfl rfl ?_
      refine G_iload_n hO dJ1_indexOf_4cfef_31 rfl rfl ?_
      refine G_iload_n hO dJ1_indexOf_4cfef_32 rfl rfl ?_
      refine G_callSi hO dJ1_indexOf_4cfef_33 h cl_J1_95 rfl (Nat.le_of_ble_eq_true rfl) (fun r9 w10 h => ?_) rfl
      exact G_iret hO dJ1_indexOf_4cfef_36 rfl rfl (QI.i h)
    · have h := h.2 c8
      refine G_iconst (v := -1) hO dJ1_indexOf_4cfef_27 rfl ?_
      exact G_iret hO dJ1_indexOf_4cfef_28 rfl rfl (QI.i h)
  · have h := h.2 c3
    refine G_iconst (v := -1) hO dJ1_indexOf_4cfef_7 rfl ?_
    exact G_iret hO dJ1_indexOf_4cfef_8 rfl rfl (QI.i h)
def wp_J1_indexOfChar_4cfef (Γ : Gx) (d : Nat) (kx : Nat) (p2 : Int32) (p3 : Int32) (p4 : Int32) (w : Wd) (Q : Int32 → Wd → Prop) : Prop :=
  ∀ (P_7 : Int32 → Int32 → Wd → Prop),
  (∀ (l4 : Int32) (l5 : Int32) (w : Wd), ((p4 ≤ l5 → Q (-1 : Int32) w) ∧ (¬ p4 ≤ l5 → (vp_in l5 (strN kx) ∧ ((¬ (strB kx (l5).toNatClampNeg) = l4 → P_7 l4 (l5 + 1) w) ∧ ((strB kx (l5).toNatClampNeg) = l4 → Q l5 w))))) → P_7 l4 l5 w) →
  P_7 (p2.toInt8.toInt32) p3 w
set_option maxRecDepth 20000 in
theorem con_J1_indexOfChar_4cfef {Γ : Gx} {d : Nat} (hG : GC Γ) {kx : Nat} {p2 : Int32} {p3 : Int32} {p4 : Int32} (hk : kx < 3) {w : Wd} {Q : Int32 → Wd → Prop} (h : wp_J1_indexOfChar_4cfef Γ d kx p2 p3 p4 w Q) : CI Γ (d + 1) M_J1_indexOfChar_4cfef [.ref (gad Γ (110 + kx)), .int p2, .int p3, .int p4] w Q := by
  have hC := hG.2.1
  refine Con.of RJ1 cJ1_indexOfChar_4cfef 6 (some .int) [some (.ref (gad Γ (110 + kx))), some (.int p2), some (.int p3), some (.int p4), none, none] rfl rfl (by decide +kernel) hG.1 (catR (catI (catI (catI cat0)))) (Nat.le_of_ble_eq_true rfl) rfl ?_
  intro X hO
  have h := h
    (fun (l4 : Int32) (l5 : Int32) (w : Wd) => GG Γ X (d + 1) 6 (QI Q) 7 [some (.ref (gad Γ (110 + kx))), none, none, some (.int p4), some (.int l4), some (.int l5)] [] w)
    (by
        intro l4 l5 w h
        refine G_iload hO dJ1_indexOfChar_4cfef_7 rfl ?_
        refine G_iload_n hO dJ1_indexOfChar_4cfef_9 rfl rfl ?_
        refine G_icmp_ge (tgt := 31) hO dJ1_indexOfChar_4cfef_10 (by decide) (fun c1 => ?_) (fun c1 => ?_)
        · have h := h.1 c1
          refine G_iconst (v := -1) hO dJ1_indexOfChar_4cfef_31 rfl ?_
          exact G_iret hO dJ1_indexOfChar_4cfef_32 rfl rfl (QI.i h)
        · have h := h.2 c1
          refine G_aload_n hO dJ1_indexOfChar_4cfef_13 rfl rfl ?_
          refine G_iload hO dJ1_indexOfChar_4cfef_14 rfl ?_
          obtain ⟨c2, h⟩ := h
          refine G_strLd hO (hG.x hO) dJ1_indexOfChar_4cfef_16 hk c2 ?_
          refine G_iload hO dJ1_indexOfChar_4cfef_17 rfl ?_
          refine G_icmp_ne (tgt := 25) hO dJ1_indexOfChar_4cfef_19 (by decide) (fun c3 => ?_) (fun c3 => ?_)
          · have h := h.1 c3
            refine G_iinc (v := (l5 + 1)) (lv2 := [some (.ref (gad Γ (110 + kx))), none, none, some (.int p4), some (.int l4), some (.int (l5 + 1))]) hO dJ1_indexOfChar_4cfef_25 rfl rfl (by decide) rfl rfl ?_
            refine G_goto (tgt := 7) hO dJ1_indexOfChar_4cfef_28 (by decide) ?_
            exact GG.sub (lv2 := [some (.ref (gad Γ (110 + kx))), none, none, some (.int p4), some (.int l4), some (.int (l5 + 1))]) ⟨rfl, ⟨rfl, ⟨rfl, ⟨rfl, trivial⟩⟩⟩⟩ h
          · have h := h.2 c3
            refine G_iload hO dJ1_indexOfChar_4cfef_22 rfl ?_
            exact G_iret hO dJ1_indexOfChar_4cfef_24 rfl rfl (QI.i h))
  refine G_iload_n hO dJ1_indexOfChar_4cfef_0 rfl rfl ?_
  refine G_i2b hO dJ1_indexOfChar_4cfef_1 ?_
  refine G_istore (lv2 := [some (.ref (gad Γ (110 + kx))), some (.int p2), some (.int p3), some (.int p4), some (.int (p2.toInt8.toInt32)), none]) hO dJ1_indexOfChar_4cfef_2 (by decide) rfl rfl ?_
  refine G_iload_n hO dJ1_indexOfChar_4cfef_4 rfl rfl ?_
  refine G_istore (lv2 := [some (.ref (gad Γ (110 + kx))), some (.int p2), some (.int p3), some (.int p4), some (.int (p2.toInt8.toInt32)), some (.int p3)]) hO dJ1_indexOfChar_4cfef_5 (by decide) rfl rfl ?_
  exact GG.sub (lv2 := [some (.ref (gad Γ (110 + kx))), none, none, some (.int p4), some (.int (p2.toInt8.toInt32)), some (.int p3)]) ⟨rfl, ⟨rfl, ⟨rfl, ⟨rfl, trivial⟩⟩⟩⟩ h
