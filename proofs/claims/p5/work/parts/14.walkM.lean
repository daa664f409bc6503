/-! what each method does, by program out of its bytecode (wp_..), and that the machine does it (con_..) -/
def wp_X5_within (Γ : Gx) (d : Nat) (p1 : Int32) (p2 : Int32) (p3 : Int32) (w : Wd) (Q : Int32 → Wd → Prop) : Prop :=
  ((p1 < p2 → Q (0 : Int32) w) ∧ (¬ p1 < p2 → ((p3 < p1 → Q (0 : Int32) w) ∧ (¬ p3 < p1 → Q (1 : Int32) w))))
set_option maxRecDepth 20000 in
theorem con_X5_within {Γ : Gx} {d : Nat} (hG : GM Γ) {p1 : Int32} {p2 : Int32} {p3 : Int32}  {w : Wd} {Q : Int32 → Wd → Prop} (h : wp_X5_within Γ d p1 p2 p3 w Q) : CI Γ (d + 1) M_X5_within [.int p1, .int p2, .int p3] w Q := by
  have hC := hG.2
  refine Con.of RX5 cX5_within 3 (some .boolean) [some (.int p1), some (.int p2), some (.int p3)] rfl rfl (by decide +kernel) hG.1 (catI (catI (catI cat0))) (Nat.le_of_ble_eq_true rfl) rfl ?_
  intro X hO
  refine G_iload_n hO dX5_within_0 rfl rfl ?_
  refine G_iload_n hO dX5_within_1 rfl rfl ?_
  refine G_icmp_lt (tgt := 14) hO dX5_within_2 (by decide) (fun c1 => ?_) (fun c1 => ?_)
  · have h := h.1 c1
    refine G_iconst (v := 0) hO dX5_within_14 rfl ?_
    exact G_iret hO dX5_within_15 rfl rfl (QI.i h)
  · have h := h.2 c1
    refine G_iload_n hO dX5_within_5 rfl rfl ?_
    refine G_iload_n hO dX5_within_6 rfl rfl ?_
    refine G_icmp_gt (tgt := 14) hO dX5_within_7 (by decide) (fun c2 => ?_) (fun c2 => ?_)
    · have h := h.1 c2
      refine G_iconst (v := 0) hO dX5_within_14 rfl ?_
      exact G_iret hO dX5_within_15 rfl rfl (QI.i h)
    · have h := h.2 c2
      refine G_iconst (v := 1) hO dX5_within_10 rfl ?_
      refine G_goto (tgt := 15) hO dX5_within_11 (by decide) ?_
      exact G_iret hO dX5_within_15 rfl rfl (QI.i h)
def wp_X5_bound (Γ : Gx) (d : Nat) (p1 : Int32) (w : Wd) (Q : Int32 → Wd → Prop) : Prop :=
  (((-20 : Int32) ≤ p1 → ((p1 ≤ (20 : Int32) → Q p1 w) ∧ (¬ p1 ≤ (20 : Int32) → Q (20 : Int32) w))) ∧ (¬ (-20 : Int32) ≤ p1 → Q (-20 : Int32) w))
set_option maxRecDepth 20000 in
theorem con_X5_bound {Γ : Gx} {d : Nat} (hG : GM Γ) {p1 : Int32}  {w : Wd} {Q : Int32 → Wd → Prop} (h : wp_X5_bound Γ d p1 w Q) : CI Γ (d + 1) M_X5_bound [.int p1] w Q := by
  have hC := hG.2
  refine Con.of RX5 cX5_bound 1 (some .int) [some (.int p1)] rfl rfl (by decide +kernel) hG.1 (catI cat0) (Nat.le_of_ble_eq_true rfl) rfl ?_
  intro X hO
  refine G_iload_n hO dX5_bound_0 rfl rfl ?_
  refine G_bipush (v := -20) hO dX5_bound_1 rfl ?_
  refine G_icmp_ge (tgt := 11) hO dX5_bound_3 (by decide) (fun c1 => ?_) (fun c1 => ?_)
  · have h := h.1 c1
    refine G_iload_n hO dX5_bound_11 rfl rfl ?_
    refine G_bipush (v := 20) hO dX5_bound_12 rfl ?_
    refine G_icmp_le (tgt := 22) hO dX5_bound_14 (by decide) (fun c2 => ?_) (fun c2 => ?_)
    · have h := h.1 c2
      refine G_iload_n hO dX5_bound_22 rfl rfl ?_
      exact G_iret hO dX5_bound_23 rfl rfl (QI.i h)
    · have h := h.2 c2
      refine G_bipush (v := 20) hO dX5_bound_17 rfl ?_
      refine G_goto (tgt := 23) hO dX5_bound_19 (by decide) ?_
      exact G_iret hO dX5_bound_23 rfl rfl (QI.i h)
  · have h := h.2 c1
    refine G_bipush (v := -20) hO dX5_bound_6 rfl ?_
    refine G_goto (tgt := 23) hO dX5_bound_8 (by decide) ?_
    exact G_iret hO dX5_bound_23 rfl rfl (QI.i h)
def wp_X5_isOne (Γ : Gx) (d : Nat) (p1 : Int32) (w : Wd) (Q : Int32 → Wd → Prop) : Prop :=
  CI Γ d M_X5_within [.int p1, .int (0 : Int32), .int ((w 0 2) - (1 : Int32))] w (fun r1 w2 => (isZ r1 ∧ Q r1 w2))
set_option maxRecDepth 20000 in
theorem con_X5_isOne {Γ : Gx} {d : Nat} (hG : GM Γ) {p1 : Int32}  {w : Wd} {Q : Int32 → Wd → Prop} (h : wp_X5_isOne Γ d p1 w Q) : CI Γ (d + 1) M_X5_isOne [.ref (gad Γ 0), .int p1] w Q := by
  have hC := hG.2
  refine Con.of RX5 cX5_isOne 2 (some .boolean) [some (.ref (gad Γ 0)), some (.int p1)] rfl rfl (by decide +kernel) hG.1 (catR (catI cat0)) (Nat.le_of_ble_eq_true rfl) rfl ?_
  intro X hO
  refine G_iload_n hO dX5_isOne_0 rfl rfl ?_
  refine G_iconst (v := 0) hO dX5_isOne_1 rfl ?_
  refine G_aload_n hO dX5_isOne_2 rfl rfl ?_
  refine gi_X5_79 hO dX5_isOne_3 (ShM.c0 hC) rfl ?_
  refine G_iconst (v := 1) hO dX5_isOne_6 rfl ?_
  refine G_isub hO dX5_isOne_7 ?_
  refine G_callSi hO dX5_isOne_8 h cl_X5_82 rfl (Nat.le_of_ble_eq_true rfl) (fun r1 w2 h => ?_) rfl
  exact G_iret hO dX5_isOne_11 rfl h.1.nb (QI.i h.2)
def wp_X5_areTwo (Γ : Gx) (d : Nat) (p1 : Int32) (p2 : Int32) (w : Wd) (Q : Int32 → Wd → Prop) : Prop :=
  CI Γ d M_X5_isOne [.ref (gad Γ 0), .int p1] w (fun r1 w2 => ((r1 = 0 → Q (0 : Int32) w2) ∧ (¬ r1 = 0 → CI Γ d M_X5_isOne [.ref (gad Γ 0), .int p2] w2 (fun r4 w5 => ((r4 = 0 → Q (0 : Int32) w5) ∧ (¬ r4 = 0 → ((p1 = p2 → Q (0 : Int32) w5) ∧ (¬ p1 = p2 → Q (1 : Int32) w5))))))))
set_option maxRecDepth 20000 in
theorem con_X5_areTwo {Γ : Gx} {d : Nat} (hG : GM Γ) {p1 : Int32} {p2 : Int32}  {w : Wd} {Q : Int32 → Wd → Prop} (h : wp_X5_areTwo Γ d p1 p2 w Q) : CI Γ (d + 1) M_X5_areTwo [.ref (gad Γ 0), .int p1, .int p2] w Q := by
  have hC := hG.2
  refine Con.of RX5 cX5_areTwo 3 (some .boolean) [some (.ref (gad Γ 0)), some (.int p1), some (.int p2)] rfl rfl (by decide +kernel) hG.1 (catR (catI (catI cat0))) (Nat.le_of_ble_eq_true rfl) rfl ?_
  intro X hO
  refine G_aload_n hO dX5_areTwo_0 rfl rfl ?_
  refine G_iload_n hO dX5_areTwo_1 rfl rfl ?_
  refine G_callVi hO dX5_areTwo_2 h cl_X5_86 (ShM.c0 hC) rfl rfl (Nat.le_of_ble_eq_true rfl) (fun r1 w2 h => ?_) rfl
  refine G_if_eq (tgt := 25) hO dX5_areTwo_5 (by decide) (fun c3 => ?_) (fun c3 => ?_)
  · have h := h.1 c3
    refine G_iconst (v := 0) hO dX5_areTwo_25 rfl ?_
    exact G_iret hO dX5_areTwo_26 rfl rfl (QI.i h)
  · have h := h.2 c3
    refine G_aload_n hO dX5_areTwo_8 rfl rfl ?_
    refine G_iload_n hO dX5_areTwo_9 rfl rfl ?_
    refine G_callVi hO dX5_areTwo_10 h cl_X5_86 (ShM.c0 hC) rfl rfl (Nat.le_of_ble_eq_true rfl) (fun r4 w5 h => ?_) rfl
    refine G_if_eq (tgt := 25) hO dX5_areTwo_13 (by decide) (fun c6 => ?_) (fun c6 => ?_)
    · have h := h.1 c6
      refine G_iconst (v := 0) hO dX5_areTwo_25 rfl ?_
      exact G_iret hO dX5_areTwo_26 rfl rfl (QI.i h)
    · have h := h.2 c6
      refine G_iload_n hO dX5_areTwo_16 rfl rfl ?_
      refine G_iload_n hO dX5_areTwo_17 rfl rfl ?_
      refine G_icmp_eq (tgt := 25) hO dX5_areTwo_18 (by decide) (fun c7 => ?_) (fun c7 => ?_)
      · have h := h.1 c7
        refine G_iconst (v := 0) hO dX5_areTwo_25 rfl ?_
        exact G_iret hO dX5_areTwo_26 rfl rfl (QI.i h)
      · have h := h.2 c7
        refine G_iconst (v := 1) hO dX5_areTwo_21 rfl ?_
        refine G_goto (tgt := 26) hO dX5_areTwo_22 (by decide) ?_
        exact G_iret hO dX5_areTwo_26 rfl rfl (QI.i h)
def wp_X5_isLayer (Γ : Gx) (d : Nat) (p1 : Int32) (w : Wd) (Q : Int32 → Wd → Prop) : Prop :=
  CI Γ d M_X5_within [.int p1, .int (0 : Int32), .int (7 : Int32)] w (fun r1 w2 => (isZ r1 ∧ Q r1 w2))
set_option maxRecDepth 20000 in
theorem con_X5_isLayer {Γ : Gx} {d : Nat} (hG : GM Γ) {p1 : Int32}  {w : Wd} {Q : Int32 → Wd → Prop} (h : wp_X5_isLayer Γ d p1 w Q) : CI Γ (d + 1) M_X5_isLayer [.int p1] w Q := by
  have hC := hG.2
  refine Con.of RX5 cX5_isLayer 1 (some .boolean) [some (.int p1)] rfl rfl (by decide +kernel) hG.1 (catI cat0) (Nat.le_of_ble_eq_true rfl) rfl ?_
  intro X hO
  refine G_iload_n hO dX5_isLayer_0 rfl rfl ?_
  refine G_iconst (v := 0) hO dX5_isLayer_1 rfl ?_
  refine G_bipush (v := 7) hO dX5_isLayer_2 rfl ?_
  refine G_callSi hO dX5_isLayer_4 h cl_X5_82 rfl (Nat.le_of_ble_eq_true rfl) (fun r1 w2 h => ?_) rfl
  exact G_iret hO dX5_isLayer_7 rfl h.1.nb (QI.i h.2)
def wp_X5_isSheet (Γ : Gx) (d : Nat) (p1 : Int32) (w : Wd) (Q : Int32 → Wd → Prop) : Prop :=
  CI Γ d M_X5_within [.int p1, .int (0 : Int32), .int (3 : Int32)] w (fun r1 w2 => (isZ r1 ∧ Q r1 w2))
set_option maxRecDepth 20000 in
theorem con_X5_isSheet {Γ : Gx} {d : Nat} (hG : GM Γ) {p1 : Int32}  {w : Wd} {Q : Int32 → Wd → Prop} (h : wp_X5_isSheet Γ d p1 w Q) : CI Γ (d + 1) M_X5_isSheet [.int p1] w Q := by
  have hC := hG.2
  refine Con.of RX5 cX5_isSheet 1 (some .boolean) [some (.int p1)] rfl rfl (by decide +kernel) hG.1 (catI cat0) (Nat.le_of_ble_eq_true rfl) rfl ?_
  intro X hO
  refine G_iload_n hO dX5_isSheet_0 rfl rfl ?_
  refine G_iconst (v := 0) hO dX5_isSheet_1 rfl ?_
  refine G_iconst (v := 3) hO dX5_isSheet_2 rfl ?_
  refine G_callSi hO dX5_isSheet_3 h cl_X5_82 rfl (Nat.le_of_ble_eq_true rfl) (fun r1 w2 h => ?_) rfl
  exact G_iret hO dX5_isSheet_6 rfl h.1.nb (QI.i h.2)
def wp_X5_bitsOf (Γ : Gx) (d : Nat) (p1 : Int32) (w : Wd) (Q : Int32 → Wd → Prop) : Prop :=
  ∀ (P_4 : Int32 → Int32 → Wd → Prop),
  (∀ (l1 : Int32) (l2 : Int32) (w : Wd), (((8 : Int32) ≤ l2 → Q l1 w) ∧ (¬ (8 : Int32) ≤ l2 → (∀ v2 : Int32, v2 = (l1 + ((p1 >>> (l2 &&& 31)) &&& (1 : Int32))) → P_4 v2 (l2 + 1) w))) → P_4 l1 l2 w) →
  P_4 (0 : Int32) (0 : Int32) w
set_option maxRecDepth 20000 in
theorem con_X5_bitsOf {Γ : Gx} {d : Nat} (hG : GM Γ) {p1 : Int32}  {w : Wd} {Q : Int32 → Wd → Prop} (h : wp_X5_bitsOf Γ d p1 w Q) : CI Γ (d + 1) M_X5_bitsOf [.int p1] w Q := by
  have hC := hG.2
  refine Con.of RX5 cX5_bitsOf 3 (some .int) [some (.int p1), none, none] rfl rfl (by decide +kernel) hG.1 (catI cat0) (Nat.le_of_ble_eq_true rfl) rfl ?_
  intro X hO
  have h := h
    (fun (l1 : Int32) (l2 : Int32) (w : Wd) => GG Γ X (d + 1) 3 (QI Q) 4 [some (.int p1), some (.int l1), some (.int l2)] [] w)
    (by
        intro l1 l2 w h
        refine G_iload_n hO dX5_bitsOf_4 rfl rfl ?_
        refine G_bipush (v := 8) hO dX5_bitsOf_5 rfl ?_
        refine G_icmp_ge (tgt := 24) hO dX5_bitsOf_7 (by decide) (fun c1 => ?_) (fun c1 => ?_)
        · have h := h.1 c1
          refine G_iload_n hO dX5_bitsOf_24 rfl rfl ?_
          exact G_iret hO dX5_bitsOf_25 rfl rfl (QI.i h)
        · have h := h.2 c1
          refine G_iload_n hO dX5_bitsOf_10 rfl rfl ?_
          refine G_iload_n hO dX5_bitsOf_11 rfl rfl ?_
          refine G_iload_n hO dX5_bitsOf_12 rfl rfl ?_
          refine G_ishr hO dX5_bitsOf_13 ?_
          refine G_iconst (v := 1) hO dX5_bitsOf_14 rfl ?_
          refine G_iand hO dX5_bitsOf_15 ?_
          refine G_iadd hO dX5_bitsOf_16 ?_
          refine GG.nmi (fun v2 e3 => ?_)
          have h := h v2 e3
          refine G_istore_n (lv2 := [some (.int p1), some (.int v2), some (.int l2)]) hO dX5_bitsOf_17 rfl (by decide) rfl rfl ?_
          refine G_iinc (v := (l2 + 1)) (lv2 := [some (.int p1), some (.int v2), some (.int (l2 + 1))]) hO dX5_bitsOf_18 rfl rfl (by decide) rfl rfl ?_
          refine G_goto (tgt := 4) hO dX5_bitsOf_21 (by decide) ?_
          exact GG.sub (lv2 := [some (.int p1), some (.int v2), some (.int (l2 + 1))]) ⟨rfl, ⟨rfl, ⟨rfl, trivial⟩⟩⟩ h)
  refine G_iconst (v := 0) hO dX5_bitsOf_0 rfl ?_
  refine G_istore_n (lv2 := [some (.int p1), some (.int (0 : Int32)), none]) hO dX5_bitsOf_1 rfl (by decide) rfl rfl ?_
  refine G_iconst (v := 0) hO dX5_bitsOf_2 rfl ?_
  refine G_istore_n (lv2 := [some (.int p1), some (.int (0 : Int32)), some (.int (0 : Int32))]) hO dX5_bitsOf_3 rfl (by decide) rfl rfl ?_
  exact GG.sub (lv2 := [some (.int p1), some (.int (0 : Int32)), some (.int (0 : Int32))]) ⟨rfl, ⟨rfl, ⟨rfl, trivial⟩⟩⟩ h
def wp_X5_isOf (Γ : Gx) (d : Nat) (p1 : Int32) (p2 : Int32) (w : Wd) (Q : Int32 → Wd → Prop) : Prop :=
  ((p1 = 0 → Q (1 : Int32) w) ∧ (¬ p1 = 0 → ((¬ p1 = (1 : Int32) → CI Γ d M_X5_within [.int p1, .int (2 : Int32), .int (3 : Int32)] w (fun r3 w4 => ((r3 = 0 → Q (0 : Int32) w4) ∧ (¬ r3 = 0 → CI Γ d M_X5_isOne [.ref (gad Γ 0), .int p2] w4 (fun r6 w7 => ((r6 = 0 → Q (0 : Int32) w7) ∧ (¬ r6 = 0 → Q (1 : Int32) w7))))))) ∧ (p1 = (1 : Int32) → CI Γ d M_X5_isLayer [.int p2] w (fun r9 w10 => ((r9 = 0 → Q (0 : Int32) w10) ∧ (¬ r9 = 0 → Q (1 : Int32) w10)))))))
set_option maxRecDepth 20000 in
theorem con_X5_isOf {Γ : Gx} {d : Nat} (hG : GM Γ) {p1 : Int32} {p2 : Int32}  {w : Wd} {Q : Int32 → Wd → Prop} (h : wp_X5_isOf Γ d p1 p2 w Q) : CI Γ (d + 1) M_X5_isOf [.ref (gad Γ 0), .int p1, .int p2] w Q := by
  have hC := hG.2
  refine Con.of RX5 cX5_isOf 3 (some .boolean) [some (.ref (gad Γ 0)), some (.int p1), some (.int p2)] rfl rfl (by decide +kernel) hG.1 (catR (catI (catI cat0))) (Nat.le_of_ble_eq_true rfl) rfl ?_
  intro X hO
  refine G_iload_n hO dX5_isOf_0 rfl rfl ?_
  refine G_if_eq (tgt := 36) hO dX5_isOf_1 (by decide) (fun c1 => ?_) (fun c1 => ?_)
  · have h := h.1 c1
    refine G_iconst (v := 1) hO dX5_isOf_36 rfl ?_
    refine G_goto (tgt := 41) hO dX5_isOf_37 (by decide) ?_
    exact G_iret hO dX5_isOf_41 rfl rfl (QI.i h)
  · have h := h.2 c1
    refine G_iload_n hO dX5_isOf_4 rfl rfl ?_
    refine G_iconst (v := 1) hO dX5_isOf_5 rfl ?_
    refine G_icmp_ne (tgt := 19) hO dX5_isOf_6 (by decide) (fun c2 => ?_) (fun c2 => ?_)
    · have h := h.1 c2
      refine G_iload_n hO dX5_isOf_19 rfl rfl ?_
      refine G_iconst (v := 2) hO dX5_isOf_20 rfl ?_
      refine G_iconst (v := 3) hO dX5_isOf_21 rfl ?_
      refine G_callSi hO dX5_isOf_22 h cl_X5_82 rfl (Nat.le_of_ble_eq_true rfl) (fun r3 w4 h => ?_) rfl
      refine G_if_eq (tgt := 40) hO dX5_isOf_25 (by decide) (fun c5 => ?_) (fun c5 => ?_)
      · have h := h.1 c5
        refine G_iconst (v := 0) hO dX5_isOf_40 rfl ?_
        exact G_iret hO dX5_isOf_41 rfl rfl (QI.i h)
      · have h := h.2 c5
        refine G_aload_n hO dX5_isOf_28 rfl rfl ?_
        refine G_iload_n hO dX5_isOf_29 rfl rfl ?_
        refine G_callVi hO dX5_isOf_30 h cl_X5_86 (ShM.c0 hC) rfl rfl (Nat.le_of_ble_eq_true rfl) (fun r6 w7 h => ?_) rfl
        refine G_if_eq (tgt := 40) hO dX5_isOf_33 (by decide) (fun c8 => ?_) (fun c8 => ?_)
        · have h := h.1 c8
          refine G_iconst (v := 0) hO dX5_isOf_40 rfl ?_
          exact G_iret hO dX5_isOf_41 rfl rfl (QI.i h)
        · have h := h.2 c8
          refine G_iconst (v := 1) hO dX5_isOf_36 rfl ?_
          refine G_goto (tgt := 41) hO dX5_isOf_37 (by decide) ?_
          exact G_iret hO dX5_isOf_41 rfl rfl (QI.i h)
    · have h := h.2 c2
      refine G_iload_n hO dX5_isOf_9 rfl rfl ?_
      refine G_callSi hO dX5_isOf_10 h cl_X5_90 rfl (Nat.le_of_ble_eq_true rfl) (fun r9 w10 h => ?_) rfl
      refine G_if_eq (tgt := 40) hO dX5_isOf_13 (by decide) (fun c11 => ?_) (fun c11 => ?_)
      · have h := h.1 c11
        refine G_iconst (v := 0) hO dX5_isOf_40 rfl ?_
        exact G_iret hO dX5_isOf_41 rfl rfl (QI.i h)
      · have h := h.2 c11
        refine G_goto (tgt := 36) hO dX5_isOf_16 (by decide) ?_
        refine G_iconst (v := 1) hO dX5_isOf_36 rfl ?_
        refine G_goto (tgt := 41) hO dX5_isOf_37 (by decide) ?_
        exact G_iret hO dX5_isOf_41 rfl rfl (QI.i h)
def wp_X5_isFit (Γ : Gx) (d : Nat) (p1 : Int32) (p2 : Int32) (w : Wd) (Q : Int32 → Wd → Prop) : Prop :=
  (((p1 = (0 : Int32)) → CI Γ d M_X5_within [.int p2, .int (0 : Int32), .int (999 : Int32)] w (fun r1 w2 => (isZ r1 ∧ Q r1 w2))) ∧ ((p1 = (1 : Int32)) → CI Γ d M_X5_within [.int p2, .int (0 : Int32), .int (1 : Int32)] w (fun r3 w4 => (isZ r3 ∧ Q r3 w4))) ∧ ((p1 = (2 : Int32)) → CI Γ d M_X5_within [.int p2, .int (0 : Int32), .int (9 : Int32)] w (fun r5 w6 => (isZ r5 ∧ Q r5 w6))) ∧ ((¬ p1 = (0 : Int32) ∧ ¬ p1 = (1 : Int32) ∧ ¬ p1 = (2 : Int32)) → CI Γ d M_X5_within [.int p2, .int (-20 : Int32), .int (20 : Int32)] w (fun r7 w8 => (isZ r7 ∧ Q r7 w8))))
set_option maxRecDepth 20000 in
theorem con_X5_isFit {Γ : Gx} {d : Nat} (hG : GM Γ) {p1 : Int32} {p2 : Int32}  {w : Wd} {Q : Int32 → Wd → Prop} (h : wp_X5_isFit Γ d p1 p2 w Q) : CI Γ (d + 1) M_X5_isFit [.int p1, .int p2] w Q := by
  have hC := hG.2
  refine Con.of RX5 cX5_isFit 2 (some .boolean) [some (.int p1), some (.int p2)] rfl rfl (by decide +kernel) hG.1 (catI (catI cat0)) (Nat.le_of_ble_eq_true rfl) rfl ?_
  intro X hO
  refine G_iload_n hO dX5_isFit_0 rfl rfl ?_
  by_cases e0 : p1 = (0 : Int32)
  · have h := h.1 e0
    refine G_tabIn (tgt := 28) (j := 0) hO dX5_isFit_1 (by decide) rfl (sweq e0 (by decide)) (by decide) ?_
    refine G_iload_n hO dX5_isFit_28 rfl rfl ?_
    refine G_iconst (v := 0) hO dX5_isFit_29 rfl ?_
    refine G_sipush (v := 999) hO dX5_isFit_30 rfl ?_
    refine G_callSi hO dX5_isFit_33 h cl_X5_82 rfl (Nat.le_of_ble_eq_true rfl) (fun r1 w2 h => ?_) rfl
    exact G_iret hO dX5_isFit_36 rfl h.1.nb (QI.i h.2)
  · by_cases e1 : p1 = (1 : Int32)
    · have h := h.2.1 e1
      refine G_tabIn (tgt := 37) (j := 1) hO dX5_isFit_1 (by decide) rfl (sweq e1 (by decide)) (by decide) ?_
      refine G_iload_n hO dX5_isFit_37 rfl rfl ?_
      refine G_iconst (v := 0) hO dX5_isFit_38 rfl ?_
      refine G_iconst (v := 1) hO dX5_isFit_39 rfl ?_
      refine G_callSi hO dX5_isFit_40 h cl_X5_82 rfl (Nat.le_of_ble_eq_true rfl) (fun r3 w4 h => ?_) rfl
      exact G_iret hO dX5_isFit_43 rfl h.1.nb (QI.i h.2)
    · by_cases e2 : p1 = (2 : Int32)
      · have h := h.2.2.1 e2
        refine G_tabIn (tgt := 44) (j := 2) hO dX5_isFit_1 (by decide) rfl (sweq e2 (by decide)) (by decide) ?_
        refine G_iload_n hO dX5_isFit_44 rfl rfl ?_
        refine G_iconst (v := 0) hO dX5_isFit_45 rfl ?_
        refine G_bipush (v := 9) hO dX5_isFit_46 rfl ?_
        refine G_callSi hO dX5_isFit_48 h cl_X5_82 rfl (Nat.le_of_ble_eq_true rfl) (fun r5 w6 h => ?_) rfl
        exact G_iret hO dX5_isFit_51 rfl h.1.nb (QI.i h.2)
      · have h := h.2.2.2 ⟨e0, e1, e2⟩
        refine G_tabOut (tgt := 52) hO dX5_isFit_1 (by decide) (by decide) (fun j hj => ?_) ?_
        · rcases (show j = 0 ∨ j = 1 ∨ j = 2 from by have : j < 3 := hj; omega) with rfl | rfl | rfl
          · exact swne e0 (by decide)
          · exact swne e1 (by decide)
          · exact swne e2 (by decide)
        · refine G_iload_n hO dX5_isFit_52 rfl rfl ?_
          refine G_bipush (v := -20) hO dX5_isFit_53 rfl ?_
          refine G_bipush (v := 20) hO dX5_isFit_55 rfl ?_
          refine G_callSi hO dX5_isFit_57 h cl_X5_82 rfl (Nat.le_of_ble_eq_true rfl) (fun r7 w8 h => ?_) rfl
          exact G_iret hO dX5_isFit_60 rfl h.1.nb (QI.i h.2)
def wp_X5_get (Γ : Gx) (d : Nat) (p1 : Int32) (p2 : Int32) (w : Wd) (Q : Int32 → Wd → Prop) : Prop :=
  (((p1 = (0 : Int32)) → Q (w 0 0) w) ∧ ((p1 = (1 : Int32)) → (vp_in p2 8 ∧ (((w 1 (p2).toNatClampNeg) = 0 → Q (0 : Int32) w) ∧ (¬ (w 1 (p2).toNatClampNeg) = 0 → Q (1 : Int32) w)))) ∧ ((p1 = (2 : Int32)) → (vp_in p2 5 ∧ Q (w 3 (p2).toNatClampNeg) w)) ∧ ((¬ p1 = (0 : Int32) ∧ ¬ p1 = (1 : Int32) ∧ ¬ p1 = (2 : Int32)) → (vp_in p2 5 ∧ Q (w 4 (p2).toNatClampNeg) w)))
set_option maxRecDepth 20000 in
theorem con_X5_get {Γ : Gx} {d : Nat} (hG : GM Γ) {p1 : Int32} {p2 : Int32}  {w : Wd} {Q : Int32 → Wd → Prop} (h : wp_X5_get Γ d p1 p2 w Q) : CI Γ (d + 1) M_X5_get [.ref (gad Γ 0), .int p1, .int p2] w Q := by
  have hC := hG.2
  refine Con.of RX5 cX5_get 3 (some .int) [some (.ref (gad Γ 0)), some (.int p1), some (.int p2)] rfl rfl (by decide +kernel) hG.1 (catR (catI (catI cat0))) (Nat.le_of_ble_eq_true rfl) rfl ?_
  intro X hO
  refine G_iload_n hO dX5_get_0 rfl rfl ?_
  by_cases e0 : p1 = (0 : Int32)
  · have h := h.1 e0
    refine G_tabIn (tgt := 28) (j := 0) hO dX5_get_1 (by decide) rfl (sweq e0 (by decide)) (by decide) ?_
    refine G_aload_n hO dX5_get_28 rfl rfl ?_
    refine gi_X5_93 hO dX5_get_29 (ShM.c0 hC) rfl ?_
    exact G_iret hO dX5_get_32 rfl rfl (QI.i h)
  · by_cases e1 : p1 = (1 : Int32)
    · have h := h.2.1 e1
      refine G_tabIn (tgt := 33) (j := 1) hO dX5_get_1 (by decide) rfl (sweq e1 (by decide)) (by decide) ?_
      refine G_aload_n hO dX5_get_33 rfl rfl ?_
      refine gr_X5_7 (c := 1) hO dX5_get_34 (ShM.c0 hC) rfl ?_
      refine G_iload_n hO dX5_get_37 rfl rfl ?_
      obtain ⟨c1, h⟩ := h
      refine G_baload hO dX5_get_38 (ShM.c1 hC) c1 ?_
      refine G_if_eq (tgt := 46) hO dX5_get_39 (by decide) (fun c2 => ?_) (fun c2 => ?_)
      · have h := h.1 c2
        refine G_iconst (v := 0) hO dX5_get_46 rfl ?_
        exact G_iret hO dX5_get_47 rfl rfl (QI.i h)
      · have h := h.2 c2
        refine G_iconst (v := 1) hO dX5_get_42 rfl ?_
        refine G_goto (tgt := 47) hO dX5_get_43 (by decide) ?_
        exact G_iret hO dX5_get_47 rfl rfl (QI.i h)
    · by_cases e2 : p1 = (2 : Int32)
      · have h := h.2.2.1 e2
        refine G_tabIn (tgt := 48) (j := 2) hO dX5_get_1 (by decide) rfl (sweq e2 (by decide)) (by decide) ?_
        refine G_aload_n hO dX5_get_48 rfl rfl ?_
        refine gr_X5_17 (c := 3) hO dX5_get_49 (ShM.c0 hC) rfl ?_
        refine G_iload_n hO dX5_get_52 rfl rfl ?_
        obtain ⟨c3, h⟩ := h
        refine G_iaload hO dX5_get_53 (ShM.c3 hC) c3 ?_
        exact G_iret hO dX5_get_54 rfl rfl (QI.i h)
      · have h := h.2.2.2 ⟨e0, e1, e2⟩
        refine G_tabOut (tgt := 55) hO dX5_get_1 (by decide) (by decide) (fun j hj => ?_) ?_
        · rcases (show j = 0 ∨ j = 1 ∨ j = 2 from by have : j < 3 := hj; omega) with rfl | rfl | rfl
          · exact swne e0 (by decide)
          · exact swne e1 (by decide)
          · exact swne e2 (by decide)
        · refine G_aload_n hO dX5_get_55 rfl rfl ?_
          refine gr_X5_20 (c := 4) hO dX5_get_56 (ShM.c0 hC) rfl ?_
          refine G_iload_n hO dX5_get_59 rfl rfl ?_
          obtain ⟨c4, h⟩ := h
          refine G_iaload hO dX5_get_60 (ShM.c4 hC) c4 ?_
          exact G_iret hO dX5_get_61 rfl rfl (QI.i h)
def wp_X5_set (Γ : Gx) (d : Nat) (p1 : Int32) (p2 : Int32) (p3 : Int32) (w : Wd) (Q : Int32 → Wd → Prop) : Prop :=
  CI Γ d M_X5_isOf [.ref (gad Γ 0), .int p1, .int p2] w (fun r1 w2 => ((r1 = 0 → Q (-1000 : Int32) w2) ∧ (¬ r1 = 0 → CI Γ d M_X5_isFit [.int p1, .int p3] w2 (fun r4 w5 => ((¬ r4 = 0 → CI Γ d M_X5_get [.ref (gad Γ 0), .int p1, .int p2] w5 (fun r7 w8 => ((¬ p1 = 0 → ((¬ p1 = (1 : Int32) → ((¬ p1 = (2 : Int32) → (vp_in p2 5 ∧ (∀ w13 : Wd, w13 = wset w8 4 (p2).toNatClampNeg p3 → Q r7 w13))) ∧ (p1 = (2 : Int32) → (vp_in p2 5 ∧ (∀ w16 : Wd, w16 = wset w8 3 (p2).toNatClampNeg p3 → Q r7 w16))))) ∧ (p1 = (1 : Int32) → ((¬ p3 = (1 : Int32) → (vp_in p2 8 ∧ (∀ w20 : Wd, w20 = wset w8 1 (p2).toNatClampNeg (0 : Int32) → Q r7 w20))) ∧ (p3 = (1 : Int32) → (vp_in p2 8 ∧ (∀ w23 : Wd, w23 = wset w8 1 (p2).toNatClampNeg (1 : Int32) → Q r7 w23))))))) ∧ (p1 = 0 → (∀ w25 : Wd, w25 = wset w8 0 0 p3 → Q r7 w25))))) ∧ (r4 = 0 → Q (-1000 : Int32) w5))))))
set_option maxRecDepth 20000 in
theorem con_X5_set {Γ : Gx} {d : Nat} (hG : GM Γ) {p1 : Int32} {p2 : Int32} {p3 : Int32}  {w : Wd} {Q : Int32 → Wd → Prop} (h : wp_X5_set Γ d p1 p2 p3 w Q) : CI Γ (d + 1) M_X5_set [.ref (gad Γ 0), .int p1, .int p2, .int p3] w Q := by
  have hC := hG.2
  refine Con.of RX5 cX5_set 5 (some .int) [some (.ref (gad Γ 0)), some (.int p1), some (.int p2), some (.int p3), none] rfl rfl (by decide +kernel) hG.1 (catR (catI (catI (catI cat0)))) (Nat.le_of_ble_eq_true rfl) rfl ?_
  intro X hO
  refine G_aload_n hO dX5_set_0 rfl rfl ?_
  refine G_iload_n hO dX5_set_1 rfl rfl ?_
  refine G_iload_n hO dX5_set_2 rfl rfl ?_
  refine G_callVi hO dX5_set_3 h cl_X5_96 (ShM.c0 hC) rfl rfl (Nat.le_of_ble_eq_true rfl) (fun r1 w2 h => ?_) rfl
  refine G_if_eq (tgt := 17) hO dX5_set_6 (by decide) (fun c3 => ?_) (fun c3 => ?_)
  · have h := h.1 c3
    refine G_sipush (v := -1000) hO dX5_set_17 rfl ?_
    exact G_iret hO dX5_set_20 rfl rfl (QI.i h)
  · have h := h.2 c3
    refine G_iload_n hO dX5_set_9 rfl rfl ?_
    refine G_iload_n hO dX5_set_10 rfl rfl ?_
    refine G_callSi hO dX5_set_11 h cl_X5_100 rfl (Nat.le_of_ble_eq_true rfl) (fun r4 w5 h => ?_) rfl
    refine G_if_ne (tgt := 21) hO dX5_set_14 (by decide) (fun c6 => ?_) (fun c6 => ?_)
    · have h := h.1 c6
      refine G_aload_n hO dX5_set_21 rfl rfl ?_
      refine G_iload_n hO dX5_set_22 rfl rfl ?_
      refine G_iload_n hO dX5_set_23 rfl rfl ?_
      refine G_callVi hO dX5_set_24 h cl_X5_103 (ShM.c0 hC) rfl rfl (Nat.le_of_ble_eq_true rfl) (fun r7 w8 h => ?_) rfl
      refine G_istore (lv2 := [some (.ref (gad Γ 0)), some (.int p1), some (.int p2), some (.int p3), some (.int r7)]) hO dX5_set_27 (by decide) rfl rfl ?_
      refine G_iload_n hO dX5_set_29 rfl rfl ?_
      refine G_if_ne (tgt := 41) hO dX5_set_30 (by decide) (fun c9 => ?_) (fun c9 => ?_)
      · have h := h.1 c9
        refine G_iload_n hO dX5_set_41 rfl rfl ?_
        refine G_iconst (v := 1) hO dX5_set_42 rfl ?_
        refine G_icmp_ne (tgt := 65) hO dX5_set_43 (by decide) (fun c10 => ?_) (fun c10 => ?_)
        · have h := h.1 c10
          refine G_iload_n hO dX5_set_65 rfl rfl ?_
          refine G_iconst (v := 2) hO dX5_set_66 rfl ?_
          refine G_icmp_ne (tgt := 80) hO dX5_set_67 (by decide) (fun c11 => ?_) (fun c11 => ?_)
          · have h := h.1 c11
            refine G_aload_n hO dX5_set_80 rfl rfl ?_
            refine gr_X5_20 (c := 4) hO dX5_set_81 (ShM.c0 hC) rfl ?_
            refine G_iload_n hO dX5_set_84 rfl rfl ?_
            refine G_iload_n hO dX5_set_85 rfl rfl ?_
            obtain ⟨c12, h⟩ := h
            refine G_iastore hO dX5_set_86 (ShM.c4 hC) c12 ?_
            refine GG.nmw (fun w13 e14 => ?_)
            have h := h w13 e14
            refine G_iload hO dX5_set_87 rfl ?_
            exact G_iret hO dX5_set_89 rfl rfl (QI.i h)
          · have h := h.2 c11
            refine G_aload_n hO dX5_set_70 rfl rfl ?_
            refine gr_X5_17 (c := 3) hO dX5_set_71 (ShM.c0 hC) rfl ?_
            refine G_iload_n hO dX5_set_74 rfl rfl ?_
            refine G_iload_n hO dX5_set_75 rfl rfl ?_
            obtain ⟨c15, h⟩ := h
            refine G_iastore hO dX5_set_76 (ShM.c3 hC) c15 ?_
            refine GG.nmw (fun w16 e17 => ?_)
            have h := h w16 e17
            refine G_goto (tgt := 87) hO dX5_set_77 (by decide) ?_
            refine G_iload hO dX5_set_87 rfl ?_
            exact G_iret hO dX5_set_89 rfl rfl (QI.i h)
        · have h := h.2 c10
          refine G_aload_n hO dX5_set_46 rfl rfl ?_
          refine gr_X5_7 (c := 1) hO dX5_set_47 (ShM.c0 hC) rfl ?_
          refine G_iload_n hO dX5_set_50 rfl rfl ?_
          refine G_iload_n hO dX5_set_51 rfl rfl ?_
          refine G_iconst (v := 1) hO dX5_set_52 rfl ?_
          refine G_icmp_ne (tgt := 60) hO dX5_set_53 (by decide) (fun c18 => ?_) (fun c18 => ?_)
          · have h := h.1 c18
            refine G_iconst (v := 0) hO dX5_set_60 rfl ?_
            obtain ⟨c19, h⟩ := h
            refine G_bastore hO dX5_set_61 (ShM.c1 hC) c19 (by decide) ?_
            refine GG.nmw (fun w20 e21 => ?_)
            have h := h w20 e21
            refine G_goto (tgt := 87) hO dX5_set_62 (by decide) ?_
            refine G_iload hO dX5_set_87 rfl ?_
            exact G_iret hO dX5_set_89 rfl rfl (QI.i h)
          · have h := h.2 c18
            refine G_iconst (v := 1) hO dX5_set_56 rfl ?_
            refine G_goto (tgt := 61) hO dX5_set_57 (by decide) ?_
            obtain ⟨c22, h⟩ := h
            refine G_bastore hO dX5_set_61 (ShM.c1 hC) c22 (by decide) ?_
            refine GG.nmw (fun w23 e24 => ?_)
            have h := h w23 e24
            refine G_goto (tgt := 87) hO dX5_set_62 (by decide) ?_
            refine G_iload hO dX5_set_87 rfl ?_
            exact G_iret hO dX5_set_89 rfl rfl (QI.i h)
      · have h := h.2 c9
        refine G_aload_n hO dX5_set_33 rfl rfl ?_
        refine G_iload_n hO dX5_set_34 rfl rfl ?_
        refine pi_X5_93 hO dX5_set_35 (ShM.c0 hC) rfl ?_
        refine GG.nmw (fun w25 e26 => ?_)
        have h := h w25 e26
        refine G_goto (tgt := 87) hO dX5_set_38 (by decide) ?_
        refine G_iload hO dX5_set_87 rfl ?_
        exact G_iret hO dX5_set_89 rfl rfl (QI.i h)
    · have h := h.2 c6
      refine G_sipush (v := -1000) hO dX5_set_17 rfl ?_
      exact G_iret hO dX5_set_20 rfl rfl (QI.i h)
def wp_X5_person (Γ : Gx) (d : Nat) (p1 : Int32) (p2 : Int32) (w : Wd) (Q : Int32 → Wd → Prop) : Prop :=
  CI Γ d M_X5_within [.int p1, .int (0 : Int32), .int (5 : Int32)] w (fun r1 w2 => ((r1 = 0 → Q (-2 : Int32) w2) ∧ (¬ r1 = 0 → CI Γ d M_X5_within [.int p2, .int (0 : Int32), .int (9 : Int32)] w2 (fun r4 w5 => ((¬ r4 = 0 → ((¬ (w5 0 2) = (5 : Int32) → (vp_in (w5 0 2) 5 ∧ (∀ w9 : Wd, w9 = wset w5 2 ((w5 0 2)).toNatClampNeg p1 → (vp_in (w9 0 2) 5 ∧ (∀ w12 : Wd, w12 = wset w9 3 ((w9 0 2)).toNatClampNeg p2 → (vp_in (w12 0 2) 5 ∧ (∀ w15 : Wd, w15 = wset w12 4 ((w12 0 2)).toNatClampNeg (0 : Int32) → (∀ w17 : Wd, w17 = wset w15 0 2 ((w15 0 2) + (1 : Int32)) → Q (w15 0 2) w17)))))))) ∧ ((w5 0 2) = (5 : Int32) → Q (-4 : Int32) w5))) ∧ (r4 = 0 → Q (-2 : Int32) w5))))))
set_option maxRecDepth 20000 in
theorem con_X5_person {Γ : Gx} {d : Nat} (hG : GM Γ) {p1 : Int32} {p2 : Int32}  {w : Wd} {Q : Int32 → Wd → Prop} (h : wp_X5_person Γ d p1 p2 w Q) : CI Γ (d + 1) M_X5_person [.ref (gad Γ 0), .int p1, .int p2] w Q := by
  have hC := hG.2
  refine Con.of RX5 cX5_person 3 (some .int) [some (.ref (gad Γ 0)), some (.int p1), some (.int p2)] rfl rfl (by decide +kernel) hG.1 (catR (catI (catI cat0))) (Nat.le_of_ble_eq_true rfl) rfl ?_
  intro X hO
  refine G_iload_n hO dX5_person_0 rfl rfl ?_
  refine G_iconst (v := 0) hO dX5_person_1 rfl ?_
  refine G_iconst (v := 5) hO dX5_person_2 rfl ?_
  refine G_callSi hO dX5_person_3 h cl_X5_82 rfl (Nat.le_of_ble_eq_true rfl) (fun r1 w2 h => ?_) rfl
  refine G_if_eq (tgt := 19) hO dX5_person_6 (by decide) (fun c3 => ?_) (fun c3 => ?_)
  · have h := h.1 c3
    refine G_bipush (v := -2) hO dX5_person_19 rfl ?_
    exact G_iret hO dX5_person_21 rfl rfl (QI.i h)
  · have h := h.2 c3
    refine G_iload_n hO dX5_person_9 rfl rfl ?_
    refine G_iconst (v := 0) hO dX5_person_10 rfl ?_
    refine G_bipush (v := 9) hO dX5_person_11 rfl ?_
    refine G_callSi hO dX5_person_13 h cl_X5_82 rfl (Nat.le_of_ble_eq_true rfl) (fun r4 w5 h => ?_) rfl
    refine G_if_ne (tgt := 22) hO dX5_person_16 (by decide) (fun c6 => ?_) (fun c6 => ?_)
    · have h := h.1 c6
      refine G_aload_n hO dX5_person_22 rfl rfl ?_
      refine gi_X5_79 hO dX5_person_23 (ShM.c0 hC) rfl ?_
      refine G_iconst (v := 5) hO dX5_person_26 rfl ?_
      refine G_icmp_ne (tgt := 33) hO dX5_person_27 (by decide) (fun c7 => ?_) (fun c7 => ?_)
      · have h := h.1 c7
        refine G_aload_n hO dX5_person_33 rfl rfl ?_
        refine gr_X5_13 (c := 2) hO dX5_person_34 (ShM.c0 hC) rfl ?_
        refine G_aload_n hO dX5_person_37 rfl rfl ?_
        refine gi_X5_79 hO dX5_person_38 (ShM.c0 hC) rfl ?_
        refine G_iload_n hO dX5_person_41 rfl rfl ?_
        obtain ⟨c8, h⟩ := h
        refine G_iastore hO dX5_person_42 (ShM.c2 hC) c8 ?_
        refine GG.nmw (fun w9 e10 => ?_)
        have h := h w9 e10
        refine G_aload_n hO dX5_person_43 rfl rfl ?_
        refine gr_X5_17 (c := 3) hO dX5_person_44 (ShM.c0 hC) rfl ?_
        refine G_aload_n hO dX5_person_47 rfl rfl ?_
        refine gi_X5_79 hO dX5_person_48 (ShM.c0 hC) rfl ?_
        refine G_iload_n hO dX5_person_51 rfl rfl ?_
        obtain ⟨c11, h⟩ := h
        refine G_iastore hO dX5_person_52 (ShM.c3 hC) c11 ?_
        refine GG.nmw (fun w12 e13 => ?_)
        have h := h w12 e13
        refine GG.atpc (pc2 := 53) rfl ?_
        refine G_aload_n hO dX5_person_53 rfl rfl ?_
        refine gr_X5_20 (c := 4) hO dX5_person_54 (ShM.c0 hC) rfl ?_
        refine G_aload_n hO dX5_person_57 rfl rfl ?_
        refine gi_X5_79 hO dX5_person_58 (ShM.c0 hC) rfl ?_
        refine G_iconst (v := 0) hO dX5_person_61 rfl ?_
        obtain ⟨c14, h⟩ := h
        refine G_iastore hO dX5_person_62 (ShM.c4 hC) c14 ?_
        refine GG.nmw (fun w15 e16 => ?_)
        have h := h w15 e16
        refine G_aload_n hO dX5_person_63 rfl rfl ?_
        refine G_dup hO dX5_person_64 rfl ?_
        refine gi_X5_79 hO dX5_person_65 (ShM.c0 hC) rfl ?_
        refine G_dup_x1 hO dX5_person_68 rfl rfl ?_
        refine G_iconst (v := 1) hO dX5_person_69 rfl ?_
        refine G_iadd hO dX5_person_70 ?_
        refine GG.atpc (pc2 := 71) rfl ?_
        refine pi_X5_79 hO dX5_person_71 (ShM.c0 hC) rfl ?_
        refine GG.nmw (fun w17 e18 => ?_)
        have h := h w17 e18
        exact G_iret hO dX5_person_74 rfl rfl (QI.i h)
      · have h := h.2 c7
        refine G_bipush (v := -4) hO dX5_person_30 rfl ?_
        exact G_iret hO dX5_person_32 rfl rfl (QI.i h)
    · have h := h.2 c6
      refine G_bipush (v := -2) hO dX5_person_19 rfl ?_
      exact G_iret hO dX5_person_21 rfl rfl (QI.i h)
def wp_X5_sent (Γ : Gx) (d : Nat) (p1 : Int32) (w : Wd) (Q : Int32 → Wd → Prop) : Prop :=
  ∀ (P_4 : Int32 → Int32 → Wd → Prop),
  (∀ (l2 : Int32) (l3 : Int32) (w : Wd), (((w 0 2) ≤ l3 → Q l2 w) ∧ (¬ (w 0 2) ≤ l3 → ((l3 = p1 → P_4 l2 (l3 + 1) w) ∧ (¬ l3 = p1 → CI Γ d M_X5_made [.ref (gad Γ 0), .int p1, .int l3] w (fun r3 w4 => ((r3 = 0 → P_4 l2 (l3 + 1) w4) ∧ (¬ r3 = 0 → P_4 (l2 + 1) (l3 + 1) w4))))))) → P_4 l2 l3 w) →
  P_4 (0 : Int32) (0 : Int32) w
set_option maxRecDepth 20000 in
theorem con_X5_sent {Γ : Gx} {d : Nat} (hG : GM Γ) {p1 : Int32}  {w : Wd} {Q : Int32 → Wd → Prop} (h : wp_X5_sent Γ d p1 w Q) : CI Γ (d + 1) M_X5_sent [.ref (gad Γ 0), .int p1] w Q := by
  have hC := hG.2
  refine Con.of RX5 cX5_sent 4 (some .int) [some (.ref (gad Γ 0)), some (.int p1), none, none] rfl rfl (by decide +kernel) hG.1 (catR (catI cat0)) (Nat.le_of_ble_eq_true rfl) rfl ?_
  intro X hO
  have h := h
    (fun (l2 : Int32) (l3 : Int32) (w : Wd) => GG Γ X (d + 1) 4 (QI Q) 4 [some (.ref (gad Γ 0)), some (.int p1), some (.int l2), some (.int l3)] [] w)
    (by
        intro l2 l3 w h
        refine G_iload_n hO dX5_sent_4 rfl rfl ?_
        refine G_aload_n hO dX5_sent_5 rfl rfl ?_
        refine gi_X5_79 hO dX5_sent_6 (ShM.c0 hC) rfl ?_
        refine G_icmp_ge (tgt := 35) hO dX5_sent_9 (by decide) (fun c1 => ?_) (fun c1 => ?_)
        · have h := h.1 c1
          refine G_iload_n hO dX5_sent_35 rfl rfl ?_
          exact G_iret hO dX5_sent_36 rfl rfl (QI.i h)
        · have h := h.2 c1
          refine G_iload_n hO dX5_sent_12 rfl rfl ?_
          refine G_iload_n hO dX5_sent_13 rfl rfl ?_
          refine G_icmp_eq (tgt := 29) hO dX5_sent_14 (by decide) (fun c2 => ?_) (fun c2 => ?_)
          · have h := h.1 c2
            refine G_iinc (v := (l3 + 1)) (lv2 := [some (.ref (gad Γ 0)), some (.int p1), some (.int l2), some (.int (l3 + 1))]) hO dX5_sent_29 rfl rfl (by decide) rfl rfl ?_
            refine G_goto (tgt := 4) hO dX5_sent_32 (by decide) ?_
            exact GG.sub (lv2 := [some (.ref (gad Γ 0)), some (.int p1), some (.int l2), some (.int (l3 + 1))]) ⟨rfl, ⟨rfl, ⟨rfl, ⟨rfl, trivial⟩⟩⟩⟩ h
          · have h := h.2 c2
            refine G_aload_n hO dX5_sent_17 rfl rfl ?_
            refine G_iload_n hO dX5_sent_18 rfl rfl ?_
            refine G_iload_n hO dX5_sent_19 rfl rfl ?_
            refine G_callVi hO dX5_sent_20 h cl_X5_107 (ShM.c0 hC) rfl rfl (Nat.le_of_ble_eq_true rfl) (fun r3 w4 h => ?_) rfl
            refine G_if_eq (tgt := 29) hO dX5_sent_23 (by decide) (fun c5 => ?_) (fun c5 => ?_)
            · have h := h.1 c5
              refine G_iinc (v := (l3 + 1)) (lv2 := [some (.ref (gad Γ 0)), some (.int p1), some (.int l2), some (.int (l3 + 1))]) hO dX5_sent_29 rfl rfl (by decide) rfl rfl ?_
              refine G_goto (tgt := 4) hO dX5_sent_32 (by decide) ?_
              exact GG.sub (lv2 := [some (.ref (gad Γ 0)), some (.int p1), some (.int l2), some (.int (l3 + 1))]) ⟨rfl, ⟨rfl, ⟨rfl, ⟨rfl, trivial⟩⟩⟩⟩ h
            · have h := h.2 c5
              refine G_iinc (v := (l2 + 1)) (lv2 := [some (.ref (gad Γ 0)), some (.int p1), some (.int (l2 + 1)), some (.int l3)]) hO dX5_sent_26 rfl rfl (by decide) rfl rfl ?_
              refine G_iinc (v := (l3 + 1)) (lv2 := [some (.ref (gad Γ 0)), some (.int p1), some (.int (l2 + 1)), some (.int (l3 + 1))]) hO dX5_sent_29 rfl rfl (by decide) rfl rfl ?_
              refine G_goto (tgt := 4) hO dX5_sent_32 (by decide) ?_
              exact GG.sub (lv2 := [some (.ref (gad Γ 0)), some (.int p1), some (.int (l2 + 1)), some (.int (l3 + 1))]) ⟨rfl, ⟨rfl, ⟨rfl, ⟨rfl, trivial⟩⟩⟩⟩ h)
  refine G_iconst (v := 0) hO dX5_sent_0 rfl ?_
  refine G_istore_n (lv2 := [some (.ref (gad Γ 0)), some (.int p1), some (.int (0 : Int32)), none]) hO dX5_sent_1 rfl (by decide) rfl rfl ?_
  refine G_iconst (v := 0) hO dX5_sent_2 rfl ?_
  refine G_istore_n (lv2 := [some (.ref (gad Γ 0)), some (.int p1), some (.int (0 : Int32)), some (.int (0 : Int32))]) hO dX5_sent_3 rfl (by decide) rfl rfl ?_
  exact GG.sub (lv2 := [some (.ref (gad Γ 0)), some (.int p1), some (.int (0 : Int32)), some (.int (0 : Int32))]) ⟨rfl, ⟨rfl, ⟨rfl, ⟨rfl, trivial⟩⟩⟩⟩ h
def wp_X5_gotten (Γ : Gx) (d : Nat) (p1 : Int32) (w : Wd) (Q : Int32 → Wd → Prop) : Prop :=
  ∀ (P_4 : Int32 → Int32 → Wd → Prop),
  (∀ (l2 : Int32) (l3 : Int32) (w : Wd), (((w 0 2) ≤ l3 → Q l2 w) ∧ (¬ (w 0 2) ≤ l3 → ((l3 = p1 → P_4 l2 (l3 + 1) w) ∧ (¬ l3 = p1 → CI Γ d M_X5_made [.ref (gad Γ 0), .int l3, .int p1] w (fun r3 w4 => CI Γ d M_X5_bitsOf [.int r3] w4 (fun r5 w6 => P_4 (l2 + r5) (l3 + 1) w6)))))) → P_4 l2 l3 w) →
  P_4 (0 : Int32) (0 : Int32) w
set_option maxRecDepth 20000 in
theorem con_X5_gotten {Γ : Gx} {d : Nat} (hG : GM Γ) {p1 : Int32}  {w : Wd} {Q : Int32 → Wd → Prop} (h : wp_X5_gotten Γ d p1 w Q) : CI Γ (d + 1) M_X5_gotten [.ref (gad Γ 0), .int p1] w Q := by
  have hC := hG.2
  refine Con.of RX5 cX5_gotten 4 (some .int) [some (.ref (gad Γ 0)), some (.int p1), none, none] rfl rfl (by decide +kernel) hG.1 (catR (catI cat0)) (Nat.le_of_ble_eq_true rfl) rfl ?_
  intro X hO
  have h := h
    (fun (l2 : Int32) (l3 : Int32) (w : Wd) => GG Γ X (d + 1) 4 (QI Q) 4 [some (.ref (gad Γ 0)), some (.int p1), some (.int l2), some (.int l3)] [] w)
    (by
        intro l2 l3 w h
        refine G_iload_n hO dX5_gotten_4 rfl rfl ?_
        refine G_aload_n hO dX5_gotten_5 rfl rfl ?_
        refine gi_X5_79 hO dX5_gotten_6 (ShM.c0 hC) rfl ?_
        refine G_icmp_ge (tgt := 35) hO dX5_gotten_9 (by decide) (fun c1 => ?_) (fun c1 => ?_)
        · have h := h.1 c1
          refine G_iload_n hO dX5_gotten_35 rfl rfl ?_
          exact G_iret hO dX5_gotten_36 rfl rfl (QI.i h)
        · have h := h.2 c1
          refine G_iload_n hO dX5_gotten_12 rfl rfl ?_
          refine G_iload_n hO dX5_gotten_13 rfl rfl ?_
          refine G_icmp_eq (tgt := 29) hO dX5_gotten_14 (by decide) (fun c2 => ?_) (fun c2 => ?_)
          · have h := h.1 c2
            refine G_iinc (v := (l3 + 1)) (lv2 := [some (.ref (gad Γ 0)), some (.int p1), some (.int l2), some (.int (l3 + 1))]) hO dX5_gotten_29 rfl rfl (by decide) rfl rfl ?_
            refine G_goto (tgt := 4) hO dX5_gotten_32 (by decide) ?_
            exact GG.sub (lv2 := [some (.ref (gad Γ 0)), some (.int p1), some (.int l2), some (.int (l3 + 1))]) ⟨rfl, ⟨rfl, ⟨rfl, ⟨rfl, trivial⟩⟩⟩⟩ h
          · have h := h.2 c2
            refine G_iload_n hO dX5_gotten_17 rfl rfl ?_
            refine G_aload_n hO dX5_gotten_18 rfl rfl ?_
            refine G_iload_n hO dX5_gotten_19 rfl rfl ?_
            refine G_iload_n hO dX5_gotten_20 rfl rfl ?_
            refine G_callVi hO dX5_gotten_21 h cl_X5_107 (ShM.c0 hC) rfl rfl (Nat.le_of_ble_eq_true rfl) (fun r3 w4 h => ?_) rfl
            refine G_callSi hO dX5_gotten_24 h cl_X5_110 rfl (Nat.le_of_ble_eq_true rfl) (fun r5 w6 h => ?_) rfl
            refine G_iadd hO dX5_gotten_27 ?_
            refine G_istore_n (lv2 := [some (.ref (gad Γ 0)), some (.int p1), some (.int (l2 + r5)), some (.int l3)]) hO dX5_gotten_28 rfl (by decide) rfl rfl ?_
            refine G_iinc (v := (l3 + 1)) (lv2 := [some (.ref (gad Γ 0)), some (.int p1), some (.int (l2 + r5)), some (.int (l3 + 1))]) hO dX5_gotten_29 rfl rfl (by decide) rfl rfl ?_
            refine G_goto (tgt := 4) hO dX5_gotten_32 (by decide) ?_
            exact GG.sub (lv2 := [some (.ref (gad Γ 0)), some (.int p1), some (.int (l2 + r5)), some (.int (l3 + 1))]) ⟨rfl, ⟨rfl, ⟨rfl, ⟨rfl, trivial⟩⟩⟩⟩ h)
  refine G_iconst (v := 0) hO dX5_gotten_0 rfl ?_
  refine G_istore_n (lv2 := [some (.ref (gad Γ 0)), some (.int p1), some (.int (0 : Int32)), none]) hO dX5_gotten_1 rfl (by decide) rfl rfl ?_
  refine G_iconst (v := 0) hO dX5_gotten_2 rfl ?_
  refine G_istore_n (lv2 := [some (.ref (gad Γ 0)), some (.int p1), some (.int (0 : Int32)), some (.int (0 : Int32))]) hO dX5_gotten_3 rfl (by decide) rfl rfl ?_
  exact GG.sub (lv2 := [some (.ref (gad Γ 0)), some (.int p1), some (.int (0 : Int32)), some (.int (0 : Int32))]) ⟨rfl, ⟨rfl, ⟨rfl, ⟨rfl, trivial⟩⟩⟩⟩ h
def wp_X5_told (Γ : Gx) (d : Nat) (p1 : Int32) (p2 : Int32) (w : Wd) (Q : Int32 → Wd → Prop) : Prop :=
  CI Γ d M_X5_within [.int p2, .int (0 : Int32), .int (3 : Int32)] w (fun r1 w2 => ((r1 = 0 → CI Γ d M_X5_isOne [.ref (gad Γ 0), .int p1] w2 (fun r4 w5 => ((¬ r4 = 0 → (((p2 = (4 : Int32)) → (vp_in p1 5 ∧ Q (w5 2 (p1).toNatClampNeg) w5)) ∧ ((p2 = (5 : Int32)) → CI Γ d M_X5_sent [.ref (gad Γ 0), .int p1] w5 (fun r8 w9 => Q r8 w9)) ∧ ((p2 = (6 : Int32)) → CI Γ d M_X5_gotten [.ref (gad Γ 0), .int p1] w5 (fun r10 w11 => Q r10 w11)) ∧ ((p2 = (7 : Int32)) → (vp_in p1 5 ∧ CI Γ d M_X5_felt [.ref (gad Γ 0), .int p1] w5 (fun r13 w14 => CI Γ d M_X5_bound [.int ((w5 4 (p1).toNatClampNeg) + r13)] w14 (fun r15 w16 => Q r15 w16)))) ∧ ((¬ p2 = (4 : Int32) ∧ ¬ p2 = (5 : Int32) ∧ ¬ p2 = (6 : Int32) ∧ ¬ p2 = (7 : Int32)) → Q (-1000 : Int32) w5))) ∧ (r4 = 0 → Q (-1000 : Int32) w5)))) ∧ (¬ r1 = 0 → CI Γ d M_X5_isOf [.ref (gad Γ 0), .int p2, .int p1] w2 (fun r17 w18 => ((r17 = 0 → Q (-1000 : Int32) w18) ∧ (¬ r17 = 0 → CI Γ d M_X5_get [.ref (gad Γ 0), .int p2, .int p1] w18 (fun r20 w21 => Q r20 w21)))))))
set_option maxRecDepth 20000 in
theorem con_X5_told {Γ : Gx} {d : Nat} (hG : GM Γ) {p1 : Int32} {p2 : Int32}  {w : Wd} {Q : Int32 → Wd → Prop} (h : wp_X5_told Γ d p1 p2 w Q) : CI Γ (d + 1) M_X5_told [.ref (gad Γ 0), .int p1, .int p2] w Q := by
  have hC := hG.2
  refine Con.of RX5 cX5_told 3 (some .int) [some (.ref (gad Γ 0)), some (.int p1), some (.int p2)] rfl rfl (by decide +kernel) hG.1 (catR (catI (catI cat0))) (Nat.le_of_ble_eq_true rfl) rfl ?_
  intro X hO
  refine G_iload_n hO dX5_told_0 rfl rfl ?_
  refine G_iconst (v := 0) hO dX5_told_1 rfl ?_
  refine G_iconst (v := 3) hO dX5_told_2 rfl ?_
  refine G_callSi hO dX5_told_3 h cl_X5_82 rfl (Nat.le_of_ble_eq_true rfl) (fun r1 w2 h => ?_) rfl
  refine G_if_eq (tgt := 31) hO dX5_told_6 (by decide) (fun c3 => ?_) (fun c3 => ?_)
  · have h := h.1 c3
    refine G_aload_n hO dX5_told_31 rfl rfl ?_
    refine G_iload_n hO dX5_told_32 rfl rfl ?_
    refine G_callVi hO dX5_told_33 h cl_X5_86 (ShM.c0 hC) rfl rfl (Nat.le_of_ble_eq_true rfl) (fun r4 w5 h => ?_) rfl
    refine G_if_ne (tgt := 43) hO dX5_told_36 (by decide) (fun c6 => ?_) (fun c6 => ?_)
    · have h := h.1 c6
      refine G_iload_n hO dX5_told_43 rfl rfl ?_
      by_cases e4 : p2 = (4 : Int32)
      · have h := h.1 e4
        refine G_tabIn (tgt := 76) (j := 0) hO dX5_told_44 (by decide) rfl (sweq e4 (by decide)) (by decide) ?_
        refine G_aload_n hO dX5_told_76 rfl rfl ?_
        refine gr_X5_13 (c := 2) hO dX5_told_77 (ShM.c0 hC) rfl ?_
        refine G_iload_n hO dX5_told_80 rfl rfl ?_
        obtain ⟨c7, h⟩ := h
        refine G_iaload hO dX5_told_81 (ShM.c2 hC) c7 ?_
        exact G_iret hO dX5_told_82 rfl rfl (QI.i h)
      · by_cases e5 : p2 = (5 : Int32)
        · have h := h.2.1 e5
          refine G_tabIn (tgt := 83) (j := 1) hO dX5_told_44 (by decide) rfl (sweq e5 (by decide)) (by decide) ?_
          refine G_aload_n hO dX5_told_83 rfl rfl ?_
          refine G_iload_n hO dX5_told_84 rfl rfl ?_
          refine G_callVi hO dX5_told_85 h cl_X5_114 (ShM.c0 hC) rfl rfl (Nat.le_of_ble_eq_true rfl) (fun r8 w9 h => ?_) rfl
          exact G_iret hO dX5_told_88 rfl rfl (QI.i h)
        · by_cases e6 : p2 = (6 : Int32)
          · have h := h.2.2.1 e6
            refine G_tabIn (tgt := 89) (j := 2) hO dX5_told_44 (by decide) rfl (sweq e6 (by decide)) (by decide) ?_
            refine G_aload_n hO dX5_told_89 rfl rfl ?_
            refine G_iload_n hO dX5_told_90 rfl rfl ?_
            refine G_callVi hO dX5_told_91 h cl_X5_117 (ShM.c0 hC) rfl rfl (Nat.le_of_ble_eq_true rfl) (fun r10 w11 h => ?_) rfl
            exact G_iret hO dX5_told_94 rfl rfl (QI.i h)
          · by_cases e7 : p2 = (7 : Int32)
            · have h := h.2.2.2.1 e7
              refine G_tabIn (tgt := 95) (j := 3) hO dX5_told_44 (by decide) rfl (sweq e7 (by decide)) (by decide) ?_
              refine G_aload_n hO dX5_told_95 rfl rfl ?_
              refine gr_X5_20 (c := 4) hO dX5_told_96 (ShM.c0 hC) rfl ?_
              refine G_iload_n hO dX5_told_99 rfl rfl ?_
              obtain ⟨c12, h⟩ := h
              refine G_iaload hO dX5_told_100 (ShM.c4 hC) c12 ?_
              refine G_aload_n hO dX5_told_101 rfl rfl ?_
              refine G_iload_n hO dX5_told_102 rfl rfl ?_
              refine G_callVi hO dX5_told_103 h cl_X5_120 (ShM.c0 hC) rfl rfl (Nat.le_of_ble_eq_true rfl) (fun r13 w14 h => ?_) rfl
              refine G_iadd hO dX5_told_106 ?_
              refine G_callSi hO dX5_told_107 h cl_X5_123 rfl (Nat.le_of_ble_eq_true rfl) (fun r15 w16 h => ?_) rfl
              exact G_iret hO dX5_told_110 rfl rfl (QI.i h)
            · have h := h.2.2.2.2 ⟨e4, e5, e6, e7⟩
              refine G_tabOut (tgt := 111) hO dX5_told_44 (by decide) (by decide) (fun j hj => ?_) ?_
              · rcases (show j = 0 ∨ j = 1 ∨ j = 2 ∨ j = 3 from by have : j < 4 := hj; omega) with rfl | rfl | rfl | rfl
                · exact swne e4 (by decide)
                · exact swne e5 (by decide)
                · exact swne e6 (by decide)
                · exact swne e7 (by decide)
              · refine G_sipush (v := -1000) hO dX5_told_111 rfl ?_
                exact G_iret hO dX5_told_114 rfl rfl (QI.i h)
    · have h := h.2 c6
      refine G_sipush (v := -1000) hO dX5_told_39 rfl ?_
      exact G_iret hO dX5_told_42 rfl rfl (QI.i h)
  · have h := h.2 c3
    refine G_aload_n hO dX5_told_9 rfl rfl ?_
    refine G_iload_n hO dX5_told_10 rfl rfl ?_
    refine G_iload_n hO dX5_told_11 rfl rfl ?_
    refine G_callVi hO dX5_told_12 h cl_X5_96 (ShM.c0 hC) rfl rfl (Nat.le_of_ble_eq_true rfl) (fun r17 w18 h => ?_) rfl
    refine G_if_eq (tgt := 27) hO dX5_told_15 (by decide) (fun c19 => ?_) (fun c19 => ?_)
    · have h := h.1 c19
      refine G_sipush (v := -1000) hO dX5_told_27 rfl ?_
      exact G_iret hO dX5_told_30 rfl rfl (QI.i h)
    · have h := h.2 c19
      refine G_aload_n hO dX5_told_18 rfl rfl ?_
      refine G_iload_n hO dX5_told_19 rfl rfl ?_
      refine G_iload_n hO dX5_told_20 rfl rfl ?_
      refine G_callVi hO dX5_told_21 h cl_X5_103 (ShM.c0 hC) rfl rfl (Nat.le_of_ble_eq_true rfl) (fun r20 w21 h => ?_) rfl
      refine G_goto (tgt := 30) hO dX5_told_24 (by decide) ?_
      exact G_iret hO dX5_told_30 rfl rfl (QI.i h)
def wp_X5_feed (Γ : Gx) (d : Nat) (p1 : Int32) (w : Wd) (Q : Int32 → Wd → Prop) : Prop :=
  CI Γ d M_X5_within [.int p1, .int (0 : Int32), .int (255 : Int32)] w (fun r1 w2 => ((¬ r1 = 0 → ((¬ (w2 0 7) = (160 : Int32) → (∀ w5 : Wd, w5 = wset w2 0 7 ((w2 0 7) + (1 : Int32)) → (vp_in (w2 0 7) 160 ∧ (∀ w8 : Wd, w8 = wset w5 5 ((w2 0 7)).toNatClampNeg p1 → Q (w8 0 7) w8)))) ∧ ((w2 0 7) = (160 : Int32) → Q (-4 : Int32) w2))) ∧ (r1 = 0 → Q (-2 : Int32) w2)))
set_option maxRecDepth 20000 in
theorem con_X5_feed {Γ : Gx} {d : Nat} (hG : GM Γ) {p1 : Int32}  {w : Wd} {Q : Int32 → Wd → Prop} (h : wp_X5_feed Γ d p1 w Q) : CI Γ (d + 1) M_X5_feed [.ref (gad Γ 0), .int p1] w Q := by
  have hC := hG.2
  refine Con.of RX5 cX5_feed 2 (some .int) [some (.ref (gad Γ 0)), some (.int p1)] rfl rfl (by decide +kernel) hG.1 (catR (catI cat0)) (Nat.le_of_ble_eq_true rfl) rfl ?_
  intro X hO
  refine G_iload_n hO dX5_feed_0 rfl rfl ?_
  refine G_iconst (v := 0) hO dX5_feed_1 rfl ?_
  refine G_sipush (v := 255) hO dX5_feed_2 rfl ?_
  refine G_callSi hO dX5_feed_5 h cl_X5_82 rfl (Nat.le_of_ble_eq_true rfl) (fun r1 w2 h => ?_) rfl
  refine G_if_ne (tgt := 14) hO dX5_feed_8 (by decide) (fun c3 => ?_) (fun c3 => ?_)
  · have h := h.1 c3
    refine G_aload_n hO dX5_feed_14 rfl rfl ?_
    refine gi_X5_126 hO dX5_feed_15 (ShM.c0 hC) rfl ?_
    refine G_sipush (v := 160) hO dX5_feed_18 rfl ?_
    refine G_icmp_ne (tgt := 27) hO dX5_feed_21 (by decide) (fun c4 => ?_) (fun c4 => ?_)
    · have h := h.1 c4
      refine G_aload_n hO dX5_feed_27 rfl rfl ?_
      refine gr_X5_23 (c := 5) hO dX5_feed_28 (ShM.c0 hC) rfl ?_
      refine G_aload_n hO dX5_feed_31 rfl rfl ?_
      refine G_dup hO dX5_feed_32 rfl ?_
      refine gi_X5_126 hO dX5_feed_33 (ShM.c0 hC) rfl ?_
      refine G_dup_x1 hO dX5_feed_36 rfl rfl ?_
      refine G_iconst (v := 1) hO dX5_feed_37 rfl ?_
      refine G_iadd hO dX5_feed_38 ?_
      refine pi_X5_126 hO dX5_feed_39 (ShM.c0 hC) rfl ?_
      refine GG.nmw (fun w5 e6 => ?_)
      have h := h w5 e6
      refine G_iload_n hO dX5_feed_42 rfl rfl ?_
      obtain ⟨c7, h⟩ := h
      refine G_iastore hO dX5_feed_43 (ShM.c5 hC) c7 ?_
      refine GG.nmw (fun w8 e9 => ?_)
      have h := h w8 e9
      refine G_aload_n hO dX5_feed_44 rfl rfl ?_
      refine GG.atpc (pc2 := 45) rfl ?_
      refine gi_X5_126 hO dX5_feed_45 (ShM.c0 hC) rfl ?_
      exact G_iret hO dX5_feed_48 rfl rfl (QI.i h)
    · have h := h.2 c4
      refine G_bipush (v := -4) hO dX5_feed_24 rfl ?_
      exact G_iret hO dX5_feed_26 rfl rfl (QI.i h)
  · have h := h.2 c3
    refine G_bipush (v := -2) hO dX5_feed_11 rfl ?_
    exact G_iret hO dX5_feed_13 rfl rfl (QI.i h)
def wp_X5_isLetter (Γ : Gx) (d : Nat) (p1 : Int32) (w : Wd) (Q : Int32 → Wd → Prop) : Prop :=
  ((p1 < (97 : Int32) → Q (0 : Int32) w) ∧ (¬ p1 < (97 : Int32) → (((122 : Int32) < p1 → Q (0 : Int32) w) ∧ (¬ (122 : Int32) < p1 → Q (1 : Int32) w))))
set_option maxRecDepth 20000 in
theorem con_X5_isLetter {Γ : Gx} {d : Nat} (hG : GM Γ) {p1 : Int32}  {w : Wd} {Q : Int32 → Wd → Prop} (h : wp_X5_isLetter Γ d p1 w Q) : CI Γ (d + 1) M_X5_isLetter [.int p1] w Q := by
  have hC := hG.2
  refine Con.of RX5 cX5_isLetter 1 (some .boolean) [some (.int p1)] rfl rfl (by decide +kernel) hG.1 (catI cat0) (Nat.le_of_ble_eq_true rfl) rfl ?_
  intro X hO
  refine G_iload_n hO dX5_isLetter_0 rfl rfl ?_
  refine G_bipush (v := 97) hO dX5_isLetter_1 rfl ?_
  refine G_icmp_lt (tgt := 16) hO dX5_isLetter_3 (by decide) (fun c1 => ?_) (fun c1 => ?_)
  · have h := h.1 c1
    refine G_iconst (v := 0) hO dX5_isLetter_16 rfl ?_
    exact G_iret hO dX5_isLetter_17 rfl rfl (QI.i h)
  · have h := h.2 c1
    refine G_iload_n hO dX5_isLetter_6 rfl rfl ?_
    refine G_bipush (v := 122) hO dX5_isLetter_7 rfl ?_
    refine G_icmp_gt (tgt := 16) hO dX5_isLetter_9 (by decide) (fun c2 => ?_) (fun c2 => ?_)
    · have h := h.1 c2
      refine G_iconst (v := 0) hO dX5_isLetter_16 rfl ?_
      exact G_iret hO dX5_isLetter_17 rfl rfl (QI.i h)
    · have h := h.2 c2
      refine G_iconst (v := 1) hO dX5_isLetter_12 rfl ?_
      refine G_goto (tgt := 17) hO dX5_isLetter_13 (by decide) ?_
      exact G_iret hO dX5_isLetter_17 rfl rfl (QI.i h)
def wp_X5_isDigit (Γ : Gx) (d : Nat) (p1 : Int32) (w : Wd) (Q : Int32 → Wd → Prop) : Prop :=
  ((p1 < (48 : Int32) → Q (0 : Int32) w) ∧ (¬ p1 < (48 : Int32) → (((57 : Int32) < p1 → Q (0 : Int32) w) ∧ (¬ (57 : Int32) < p1 → Q (1 : Int32) w))))
set_option maxRecDepth 20000 in
theorem con_X5_isDigit {Γ : Gx} {d : Nat} (hG : GM Γ) {p1 : Int32}  {w : Wd} {Q : Int32 → Wd → Prop} (h : wp_X5_isDigit Γ d p1 w Q) : CI Γ (d + 1) M_X5_isDigit [.int p1] w Q := by
  have hC := hG.2
  refine Con.of RX5 cX5_isDigit 1 (some .boolean) [some (.int p1)] rfl rfl (by decide +kernel) hG.1 (catI cat0) (Nat.le_of_ble_eq_true rfl) rfl ?_
  intro X hO
  refine G_iload_n hO dX5_isDigit_0 rfl rfl ?_
  refine G_bipush (v := 48) hO dX5_isDigit_1 rfl ?_
  refine G_icmp_lt (tgt := 16) hO dX5_isDigit_3 (by decide) (fun c1 => ?_) (fun c1 => ?_)
  · have h := h.1 c1
    refine G_iconst (v := 0) hO dX5_isDigit_16 rfl ?_
    exact G_iret hO dX5_isDigit_17 rfl rfl (QI.i h)
  · have h := h.2 c1
    refine G_iload_n hO dX5_isDigit_6 rfl rfl ?_
    refine G_bipush (v := 57) hO dX5_isDigit_7 rfl ?_
    refine G_icmp_gt (tgt := 16) hO dX5_isDigit_9 (by decide) (fun c2 => ?_) (fun c2 => ?_)
    · have h := h.1 c2
      refine G_iconst (v := 0) hO dX5_isDigit_16 rfl ?_
      exact G_iret hO dX5_isDigit_17 rfl rfl (QI.i h)
    · have h := h.2 c2
      refine G_iconst (v := 1) hO dX5_isDigit_12 rfl ?_
      refine G_goto (tgt := 17) hO dX5_isDigit_13 (by decide) ?_
      exact G_iret hO dX5_isDigit_17 rfl rfl (QI.i h)
def wp_X5_isSign (Γ : Gx) (d : Nat) (p1 : Int32) (w : Wd) (Q : Int32 → Wd → Prop) : Prop :=
  (((p1 = (40 : Int32) ∨ p1 = (41 : Int32) ∨ p1 = (42 : Int32) ∨ p1 = (43 : Int32) ∨ p1 = (45 : Int32) ∨ p1 = (59 : Int32) ∨ p1 = (60 : Int32) ∨ p1 = (61 : Int32)) → Q (1 : Int32) w) ∧ ((¬ p1 = (40 : Int32) ∧ ¬ p1 = (41 : Int32) ∧ ¬ p1 = (42 : Int32) ∧ ¬ p1 = (43 : Int32) ∧ ¬ p1 = (45 : Int32) ∧ ¬ p1 = (59 : Int32) ∧ ¬ p1 = (60 : Int32) ∧ ¬ p1 = (61 : Int32)) → Q (0 : Int32) w))
set_option maxRecDepth 20000 in
theorem con_X5_isSign {Γ : Gx} {d : Nat} (hG : GM Γ) {p1 : Int32}  {w : Wd} {Q : Int32 → Wd → Prop} (h : wp_X5_isSign Γ d p1 w Q) : CI Γ (d + 1) M_X5_isSign [.int p1] w Q := by
  have hC := hG.2
  refine Con.of RX5 cX5_isSign 1 (some .boolean) [some (.int p1)] rfl rfl (by decide +kernel) hG.1 (catI cat0) (Nat.le_of_ble_eq_true rfl) rfl ?_
  intro X hO
  refine G_iload_n hO dX5_isSign_0 rfl rfl ?_
  by_cases e40 : p1 = (40 : Int32)
  · have h := h.1 (Or.inl e40)
    refine G_tabIn (tgt := 104) (j := 0) hO dX5_isSign_1 (by decide) rfl (sweq e40 (by decide)) (by decide) ?_
    refine G_iconst (v := 1) hO dX5_isSign_104 rfl ?_
    exact G_iret hO dX5_isSign_105 rfl rfl (QI.i h)
  · by_cases e41 : p1 = (41 : Int32)
    · have h := h.1 (Or.inr (Or.inl e41))
      refine G_tabIn (tgt := 104) (j := 1) hO dX5_isSign_1 (by decide) rfl (sweq e41 (by decide)) (by decide) ?_
      refine G_iconst (v := 1) hO dX5_isSign_104 rfl ?_
      exact G_iret hO dX5_isSign_105 rfl rfl (QI.i h)
    · by_cases e42 : p1 = (42 : Int32)
      · have h := h.1 (Or.inr (Or.inr (Or.inl e42)))
        refine G_tabIn (tgt := 104) (j := 2) hO dX5_isSign_1 (by decide) rfl (sweq e42 (by decide)) (by decide) ?_
        refine G_iconst (v := 1) hO dX5_isSign_104 rfl ?_
        exact G_iret hO dX5_isSign_105 rfl rfl (QI.i h)
      · by_cases e43 : p1 = (43 : Int32)
        · have h := h.1 (Or.inr (Or.inr (Or.inr (Or.inl e43))))
          refine G_tabIn (tgt := 104) (j := 3) hO dX5_isSign_1 (by decide) rfl (sweq e43 (by decide)) (by decide) ?_
          refine G_iconst (v := 1) hO dX5_isSign_104 rfl ?_
          exact G_iret hO dX5_isSign_105 rfl rfl (QI.i h)
        · by_cases e45 : p1 = (45 : Int32)
          · have h := h.1 (Or.inr (Or.inr (Or.inr (Or.inr (Or.inl e45)))))
            refine G_tabIn (tgt := 104) (j := 5) hO dX5_isSign_1 (by decide) rfl (sweq e45 (by decide)) (by decide) ?_
            refine G_iconst (v := 1) hO dX5_isSign_104 rfl ?_
            exact G_iret hO dX5_isSign_105 rfl rfl (QI.i h)
          · by_cases e59 : p1 = (59 : Int32)
            · have h := h.1 (Or.inr (Or.inr (Or.inr (Or.inr (Or.inr (Or.inl e59))))))
              refine G_tabIn (tgt := 104) (j := 19) hO dX5_isSign_1 (by decide) rfl (sweq e59 (by decide)) (by decide) ?_
              refine G_iconst (v := 1) hO dX5_isSign_104 rfl ?_
              exact G_iret hO dX5_isSign_105 rfl rfl (QI.i h)
            · by_cases e60 : p1 = (60 : Int32)
              · have h := h.1 (Or.inr (Or.inr (Or.inr (Or.inr (Or.inr (Or.inr (Or.inl e60)))))))
                refine G_tabIn (tgt := 104) (j := 20) hO dX5_isSign_1 (by decide) rfl (sweq e60 (by decide)) (by decide) ?_
                refine G_iconst (v := 1) hO dX5_isSign_104 rfl ?_
                exact G_iret hO dX5_isSign_105 rfl rfl (QI.i h)
              · by_cases e61 : p1 = (61 : Int32)
                · have h := h.1 (Or.inr (Or.inr (Or.inr (Or.inr (Or.inr (Or.inr (Or.inr e61)))))))
                  refine G_tabIn (tgt := 104) (j := 21) hO dX5_isSign_1 (by decide) rfl (sweq e61 (by decide)) (by decide) ?_
                  refine G_iconst (v := 1) hO dX5_isSign_104 rfl ?_
                  exact G_iret hO dX5_isSign_105 rfl rfl (QI.i h)
                · have h := h.2 ⟨e40, e41, e42, e43, e45, e59, e60, e61⟩
                  refine G_tabOut (tgt := 106) hO dX5_isSign_1 (by decide) (by decide) (fun j hj => ?_) ?_
                  · rcases (show j = 0 ∨ j = 1 ∨ j = 2 ∨ j = 3 ∨ j = 4 ∨ j = 5 ∨ j = 6 ∨ j = 7 ∨ j = 8 ∨ j = 9 ∨ j = 10 ∨ j = 11 ∨ j = 12 ∨ j = 13 ∨ j = 14 ∨ j = 15 ∨ j = 16 ∨ j = 17 ∨ j = 18 ∨ j = 19 ∨ j = 20 ∨ j = 21 from by have : j < 22 := hj; omega) with rfl | rfl | rfl | rfl | rfl | rfl | rfl | rfl | rfl | rfl | rfl | rfl | rfl | rfl | rfl | rfl | rfl | rfl | rfl | rfl | rfl | rfl
                    · exact swne e40 (by decide)
                    · exact swne e41 (by decide)
                    · exact swne e42 (by decide)
                    · exact swne e43 (by decide)
                    · exact trivial
                    · exact swne e45 (by decide)
                    · exact trivial
                    · exact trivial
                    · exact trivial
                    · exact trivial
                    · exact trivial
                    · exact trivial
                    · exact trivial
                    · exact trivial
                    · exact trivial
                    · exact trivial
                    · exact trivial
                    · exact trivial
                    · exact trivial
                    · exact swne e59 (by decide)
                    · exact swne e60 (by decide)
                    · exact swne e61 (by decide)
                  · refine G_iconst (v := 0) hO dX5_isSign_106 rfl ?_
                    exact G_iret hO dX5_isSign_107 rfl rfl (QI.i h)
def wp_X5_named (Γ : Gx) (d : Nat)  (w : Wd) (Q : Int32 → Wd → Prop) : Prop :=
  ((((w 0 18) = (6415353 : Int32)) → Q (0 : Int32) w) ∧ (((w 0 18) = (267223 : Int32)) → Q (1 : Int32) w) ∧ (((w 0 18) = (212302449 : Int32)) → Q (2 : Int32) w) ∧ (((w 0 18) = (291335149 : Int32)) → Q (3 : Int32) w) ∧ (((w 0 18) = (131638 : Int32)) → Q (4 : Int32) w) ∧ (((w 0 18) = (555 : Int32)) → Q (5 : Int32) w) ∧ ((¬ (w 0 18) = (555 : Int32) ∧ ¬ (w 0 18) = (131638 : Int32) ∧ ¬ (w 0 18) = (267223 : Int32) ∧ ¬ (w 0 18) = (6415353 : Int32) ∧ ¬ (w 0 18) = (212302449 : Int32) ∧ ¬ (w 0 18) = (291335149 : Int32)) → Q (-1 : Int32) w))
set_option maxRecDepth 20000 in
theorem con_X5_named {Γ : Gx} {d : Nat} (hG : GM Γ)   {w : Wd} {Q : Int32 → Wd → Prop} (h : wp_X5_named Γ d  w Q) : CI Γ (d + 1) M_X5_named [.ref (gad Γ 0)] w Q := by
  have hC := hG.2
  refine Con.of RX5 cX5_named 1 (some .int) [some (.ref (gad Γ 0))] rfl rfl (by decide +kernel) hG.1 (catR cat0) (Nat.le_of_ble_eq_true rfl) rfl ?_
  intro X hO
  refine G_aload_n hO dX5_named_0 rfl rfl ?_
  refine gi_X5_129 hO dX5_named_1 (ShM.c0 hC) rfl ?_
  by_cases e555 : (w 0 18) = (555 : Int32)
  · have h := h.2.2.2.2.2.1 e555
    refine G_lookIn (tgt := 74) (q := (555, 70)) hO dX5_named_4 (by decide) (sweq e555 (by decide)) rfl (by decide) ?_
    refine G_iconst (v := 5) hO dX5_named_74 rfl ?_
    exact G_iret hO dX5_named_75 rfl rfl (QI.i h)
  · by_cases e131638 : (w 0 18) = (131638 : Int32)
    · have h := h.2.2.2.2.1 e131638
      refine G_lookIn (tgt := 72) (q := (131638, 68)) hO dX5_named_4 (by decide) (sweq e131638 (by decide)) rfl (by decide) ?_
      refine G_iconst (v := 4) hO dX5_named_72 rfl ?_
      exact G_iret hO dX5_named_73 rfl rfl (QI.i h)
    · by_cases e267223 : (w 0 18) = (267223 : Int32)
      · have h := h.2.1 e267223
        refine G_lookIn (tgt := 66) (q := (267223, 62)) hO dX5_named_4 (by decide) (sweq e267223 (by decide)) rfl (by decide) ?_
        refine G_iconst (v := 1) hO dX5_named_66 rfl ?_
        exact G_iret hO dX5_named_67 rfl rfl (QI.i h)
      · by_cases e6415353 : (w 0 18) = (6415353 : Int32)
        · have h := h.1 e6415353
          refine G_lookIn (tgt := 64) (q := (6415353, 60)) hO dX5_named_4 (by decide) (sweq e6415353 (by decide)) rfl (by decide) ?_
          refine G_iconst (v := 0) hO dX5_named_64 rfl ?_
          exact G_iret hO dX5_named_65 rfl rfl (QI.i h)
        · by_cases e212302449 : (w 0 18) = (212302449 : Int32)
          · have h := h.2.2.1 e212302449
            refine G_lookIn (tgt := 68) (q := (212302449, 64)) hO dX5_named_4 (by decide) (sweq e212302449 (by decide)) rfl (by decide) ?_
            refine G_iconst (v := 2) hO dX5_named_68 rfl ?_
            exact G_iret hO dX5_named_69 rfl rfl (QI.i h)
          · by_cases e291335149 : (w 0 18) = (291335149 : Int32)
            · have h := h.2.2.2.1 e291335149
              refine G_lookIn (tgt := 70) (q := (291335149, 66)) hO dX5_named_4 (by decide) (sweq e291335149 (by decide)) rfl (by decide) ?_
              refine G_iconst (v := 3) hO dX5_named_70 rfl ?_
              exact G_iret hO dX5_named_71 rfl rfl (QI.i h)
            · have h := h.2.2.2.2.2.2 ⟨e555, e131638, e267223, e6415353, e212302449, e291335149⟩
              refine G_lookOut (tgt := 76) hO dX5_named_4 (by decide) (by decide) (fun q hq => ?_) ?_
              · simp only [List.mem_cons, List.not_mem_nil, or_false] at hq
                rcases hq with rfl | rfl | rfl | rfl | rfl | rfl
                · exact swne e555 (by decide)
                · exact swne e131638 (by decide)
                · exact swne e267223 (by decide)
                · exact swne e6415353 (by decide)
                · exact swne e212302449 (by decide)
                · exact swne e291335149 (by decide)
              · refine G_iconst (v := -1) hO dX5_named_76 rfl ?_
                exact G_iret hO dX5_named_77 rfl rfl (QI.i h)
def wp_X5_isKey (Γ : Gx) (d : Nat)  (w : Wd) (Q : Int32 → Wd → Prop) : Prop :=
  ((((w 0 18) = (423 : Int32) ∨ (w 0 18) = (1111 : Int32) ∨ (w 0 18) = (10631 : Int32) ∨ (w 0 18) = (74917 : Int32) ∨ (w 0 18) = (3291049 : Int32) ∨ (w 0 18) = (10206127 : Int32)) → Q (1 : Int32) w) ∧ ((¬ (w 0 18) = (423 : Int32) ∧ ¬ (w 0 18) = (1111 : Int32) ∧ ¬ (w 0 18) = (10631 : Int32) ∧ ¬ (w 0 18) = (74917 : Int32) ∧ ¬ (w 0 18) = (3291049 : Int32) ∧ ¬ (w 0 18) = (10206127 : Int32)) → Q (0 : Int32) w))
set_option maxRecDepth 20000 in
theorem con_X5_isKey {Γ : Gx} {d : Nat} (hG : GM Γ)   {w : Wd} {Q : Int32 → Wd → Prop} (h : wp_X5_isKey Γ d  w Q) : CI Γ (d + 1) M_X5_isKey [.ref (gad Γ 0)] w Q := by
  have hC := hG.2
  refine Con.of RX5 cX5_isKey 1 (some .boolean) [some (.ref (gad Γ 0))] rfl rfl (by decide +kernel) hG.1 (catR cat0) (Nat.le_of_ble_eq_true rfl) rfl ?_
  intro X hO
  refine G_aload_n hO dX5_isKey_0 rfl rfl ?_
  refine gi_X5_129 hO dX5_isKey_1 (ShM.c0 hC) rfl ?_
  by_cases e423 : (w 0 18) = (423 : Int32)
  · have h := h.1 (Or.inl e423)
    refine G_lookIn (tgt := 64) (q := (423, 60)) hO dX5_isKey_4 (by decide) (sweq e423 (by decide)) rfl (by decide) ?_
    refine G_iconst (v := 1) hO dX5_isKey_64 rfl ?_
    exact G_iret hO dX5_isKey_65 rfl rfl (QI.i h)
  · by_cases e1111 : (w 0 18) = (1111 : Int32)
    · have h := h.1 (Or.inr (Or.inl e1111))
      refine G_lookIn (tgt := 64) (q := (1111, 60)) hO dX5_isKey_4 (by decide) (sweq e1111 (by decide)) rfl (by decide) ?_
      refine G_iconst (v := 1) hO dX5_isKey_64 rfl ?_
      exact G_iret hO dX5_isKey_65 rfl rfl (QI.i h)
    · by_cases e10631 : (w 0 18) = (10631 : Int32)
      · have h := h.1 (Or.inr (Or.inr (Or.inl e10631)))
        refine G_lookIn (tgt := 64) (q := (10631, 60)) hO dX5_isKey_4 (by decide) (sweq e10631 (by decide)) rfl (by decide) ?_
        refine G_iconst (v := 1) hO dX5_isKey_64 rfl ?_
        exact G_iret hO dX5_isKey_65 rfl rfl (QI.i h)
      · by_cases e74917 : (w 0 18) = (74917 : Int32)
        · have h := h.1 (Or.inr (Or.inr (Or.inr (Or.inl e74917))))
          refine G_lookIn (tgt := 64) (q := (74917, 60)) hO dX5_isKey_4 (by decide) (sweq e74917 (by decide)) rfl (by decide) ?_
          refine G_iconst (v := 1) hO dX5_isKey_64 rfl ?_
          exact G_iret hO dX5_isKey_65 rfl rfl (QI.i h)
        · by_cases e3291049 : (w 0 18) = (3291049 : Int32)
          · have h := h.1 (Or.inr (Or.inr (Or.inr (Or.inr (Or.inl e3291049)))))
            refine G_lookIn (tgt := 64) (q := (3291049, 60)) hO dX5_isKey_4 (by decide) (sweq e3291049 (by decide)) rfl (by decide) ?_
            refine G_iconst (v := 1) hO dX5_isKey_64 rfl ?_
            exact G_iret hO dX5_isKey_65 rfl rfl (QI.i h)
          · by_cases e10206127 : (w 0 18) = (10206127 : Int32)
            · have h := h.1 (Or.inr (Or.inr (Or.inr (Or.inr (Or.inr e10206127)))))
              refine G_lookIn (tgt := 64) (q := (10206127, 60)) hO dX5_isKey_4 (by decide) (sweq e10206127 (by decide)) rfl (by decide) ?_
              refine G_iconst (v := 1) hO dX5_isKey_64 rfl ?_
              exact G_iret hO dX5_isKey_65 rfl rfl (QI.i h)
            · have h := h.2 ⟨e423, e1111, e10631, e74917, e3291049, e10206127⟩
              refine G_lookOut (tgt := 66) hO dX5_isKey_4 (by decide) (by decide) (fun q hq => ?_) ?_
              · simp only [List.mem_cons, List.not_mem_nil, or_false] at hq
                rcases hq with rfl | rfl | rfl | rfl | rfl | rfl
                · exact swne e423 (by decide)
                · exact swne e1111 (by decide)
                · exact swne e10631 (by decide)
                · exact swne e74917 (by decide)
                · exact swne e3291049 (by decide)
                · exact swne e10206127 (by decide)
              · refine G_iconst (v := 0) hO dX5_isKey_66 rfl ?_
                exact G_iret hO dX5_isKey_67 rfl rfl (QI.i h)
def wp_X5_next (Γ : Gx) (d : Nat)  (w : Wd) (Q : Wd → Prop) : Prop :=
  ∀ (P_8 : Wd → Prop),
  ∀ (P_60 : Wd → Prop),
  ∀ (P_108 : Wd → Prop),
  ∀ (P_204 : Wd → Prop),
  ∀ (P_245 : Wd → Prop),
  ∀ (P_321 : Wd → Prop),
  (∀ (w : Wd), (((w 0 7) ≤ (w 0 14) → P_60 w) ∧ (¬ (w 0 7) ≤ (w 0 14) → (vp_in (w 0 14) 160 ∧ (((w 5 ((w 0 14)).toNatClampNeg) = (32 : Int32) → (∀ w6 : Wd, w6 = wset w 0 14 ((w 0 14) + (1 : Int32)) → P_8 w6)) ∧ (¬ (w 5 ((w 0 14)).toNatClampNeg) = (32 : Int32) → ((¬ (w 5 ((w 0 14)).toNatClampNeg) = (10 : Int32) → P_60 w) ∧ ((w 5 ((w 0 14)).toNatClampNeg) = (10 : Int32) → (∀ w9 : Wd, w9 = wset w 0 14 ((w 0 14) + (1 : Int32)) → P_8 w9)))))))) → P_8 w) →
  (∀ (w : Wd), (∀ w11 : Wd, w11 = wset w 0 15 (w 0 14) → (∀ w13 : Wd, w13 = wset w11 0 18 (0 : Int32) → ((¬ (w13 0 14) = (w13 0 7) → (vp_in (w13 0 14) 160 ∧ CI Γ d M_X5_isLetter [.int (w13 5 ((w13 0 14)).toNatClampNeg)] w13 (fun r17 w18 => ((r17 = 0 → CI Γ d M_X5_isDigit [.int (w13 5 ((w13 0 14)).toNatClampNeg)] w18 (fun r20 w21 => ((r20 = 0 → (∀ w23 : Wd, w23 = wset w21 0 15 ((w21 0 15) + (1 : Int32)) → CI Γ d M_X5_isSign [.int (w13 5 ((w13 0 14)).toNatClampNeg)] w23 (fun r25 w26 => ((r25 = 0 → (∀ w28 : Wd, w28 = wset w26 0 16 (120 : Int32) → Q w28)) ∧ (¬ r25 = 0 → (∀ w30 : Wd, w30 = wset w26 0 16 (w13 5 ((w13 0 14)).toNatClampNeg) → Q w30)))))) ∧ (¬ r20 = 0 → (∀ w32 : Wd, w32 = wset w21 0 17 (0 : Int32) → P_245 w32))))) ∧ (¬ r17 = 0 → P_108 w18))))) ∧ ((w13 0 14) = (w13 0 7) → (∀ w34 : Wd, w34 = wset w13 0 16 (101 : Int32) → Q w34))))) → P_60 w) →
  (∀ (w : Wd), (((w 0 7) ≤ (w 0 15) → ((((w 0 15) - (w 0 14)) ≤ (6 : Int32) → P_204 w) ∧ (¬ ((w 0 15) - (w 0 14)) ≤ (6 : Int32) → (∀ w38 : Wd, w38 = wset w 0 18 (-1 : Int32) → P_204 w38)))) ∧ (¬ (w 0 7) ≤ (w 0 15) → (vp_in (w 0 15) 160 ∧ CI Γ d M_X5_isLetter [.int (w 5 ((w 0 15)).toNatClampNeg)] w (fun r41 w42 => ((r41 = 0 → ((((w42 0 15) - (w42 0 14)) ≤ (6 : Int32) → P_204 w42) ∧ (¬ ((w42 0 15) - (w42 0 14)) ≤ (6 : Int32) → (∀ w45 : Wd, w45 = wset w42 0 18 (-1 : Int32) → P_204 w45)))) ∧ (¬ r41 = 0 → (((6 : Int32) ≤ ((w42 0 15) - (w42 0 14)) → (∀ w48 : Wd, w48 = wset w42 0 15 ((w42 0 15) + (1 : Int32)) → P_108 w48)) ∧ (¬ (6 : Int32) ≤ ((w42 0 15) - (w42 0 14)) → (vp_in (w42 0 15) 160 ∧ (∀ w51 : Wd, w51 = wset w42 0 18 ((((27 : Int32) * (w42 0 18)) + (w42 5 ((w42 0 15)).toNatClampNeg)) - (96 : Int32)) → (∀ w53 : Wd, w53 = wset w51 0 15 ((w51 0 15) + (1 : Int32)) → P_108 w53))))))))))) → P_108 w) →
  (∀ (w : Wd), CI Γ d M_X5_named [.ref (gad Γ 0)] w (fun r55 w56 => ((¬ r55 = (-1 : Int32) → (∀ w58 : Wd, w58 = wset w56 0 16 (119 : Int32) → Q w58)) ∧ (r55 = (-1 : Int32) → CI Γ d M_X5_isKey [.ref (gad Γ 0)] w56 (fun r60 w61 => ((¬ r60 = 0 → (∀ w63 : Wd, w63 = wset w61 0 16 (119 : Int32) → Q w63)) ∧ (r60 = 0 → (∀ w65 : Wd, w65 = wset w61 0 16 (120 : Int32) → Q w65))))))) → P_204 w) →
  (∀ (w : Wd), (((w 0 7) ≤ (w 0 15) → P_321 w) ∧ (¬ (w 0 7) ≤ (w 0 15) → (vp_in (w 0 15) 160 ∧ CI Γ d M_X5_isDigit [.int (w 5 ((w 0 15)).toNatClampNeg)] w (fun r69 w70 => ((r69 = 0 → P_321 w70) ∧ (¬ r69 = 0 → (((4 : Int32) ≤ ((w70 0 15) - (w70 0 14)) → (∀ w73 : Wd, w73 = wset w70 0 15 ((w70 0 15) + (1 : Int32)) → P_245 w73)) ∧ (¬ (4 : Int32) ≤ ((w70 0 15) - (w70 0 14)) → (vp_in (w70 0 15) 160 ∧ (∀ w76 : Wd, w76 = wset w70 0 17 ((((10 : Int32) * (w70 0 17)) + (w70 5 ((w70 0 15)).toNatClampNeg)) - (48 : Int32)) → (∀ w78 : Wd, w78 = wset w76 0 15 ((w76 0 15) + (1 : Int32)) → P_245 w78))))))))))) → P_245 w) →
  (∀ (w : Wd), ((((w 0 15) - (w 0 14)) ≤ (4 : Int32) → (∀ w81 : Wd, w81 = wset w 0 16 (48 : Int32) → Q w81)) ∧ (¬ ((w 0 15) - (w 0 14)) ≤ (4 : Int32) → (∀ w83 : Wd, w83 = wset w 0 16 (120 : Int32) → Q w83))) → P_321 w) →
  (∀ w1 : Wd, w1 = wset w 0 14 (w 0 15) → P_8 w1)
set_option maxRecDepth 20000 in
theorem con_X5_next {Γ : Gx} {d : Nat} (hG : GM Γ)   {w : Wd} {Q : Wd → Prop} (h : wp_X5_next Γ d  w Q) : CV Γ (d + 1) M_X5_next [.ref (gad Γ 0)] w Q := by
  have hC := hG.2
  refine Con.of RX5 cX5_next 2 none [some (.ref (gad Γ 0)), none] rfl rfl (by decide +kernel) hG.1 (catR cat0) (Nat.le_of_ble_eq_true rfl) rfl ?_
  intro X hO
  have h := h
    (fun (w : Wd) => GG Γ X (d + 1) 2 (QV Q) 8 [some (.ref (gad Γ 0)), none] [] w)
    (fun (w : Wd) => GG Γ X (d + 1) 2 (QV Q) 60 [some (.ref (gad Γ 0)), none] [] w)
    (fun (w : Wd) => GG Γ X (d + 1) 2 (QV Q) 108 [some (.ref (gad Γ 0)), none] [] w)
    (fun (w : Wd) => GG Γ X (d + 1) 2 (QV Q) 204 [some (.ref (gad Γ 0)), none] [] w)
    (fun (w : Wd) => GG Γ X (d + 1) 2 (QV Q) 245 [some (.ref (gad Γ 0)), none] [] w)
    (fun (w : Wd) => GG Γ X (d + 1) 2 (QV Q) 321 [some (.ref (gad Γ 0)), none] [] w)
    (by
        intro w h
        refine G_aload_n hO dX5_next_8 rfl rfl ?_
        refine gi_X5_135 hO dX5_next_9 (ShM.c0 hC) rfl ?_
        refine G_aload_n hO dX5_next_12 rfl rfl ?_
        refine gi_X5_126 hO dX5_next_13 (ShM.c0 hC) rfl ?_
        refine G_icmp_ge (tgt := 60) hO dX5_next_16 (by decide) (fun c3 => ?_) (fun c3 => ?_)
        · have h := h.1 c3
          exact GG.sub (lv2 := [some (.ref (gad Γ 0)), none]) ⟨rfl, trivial⟩ h
        · have h := h.2 c3
          refine G_aload_n hO dX5_next_19 rfl rfl ?_
          refine gr_X5_23 (c := 5) hO dX5_next_20 (ShM.c0 hC) rfl ?_
          refine G_aload_n hO dX5_next_23 rfl rfl ?_
          refine gi_X5_135 hO dX5_next_24 (ShM.c0 hC) rfl ?_
          obtain ⟨c4, h⟩ := h
          refine G_iaload hO dX5_next_27 (ShM.c5 hC) c4 ?_
          refine G_bipush (v := 32) hO dX5_next_28 rfl ?_
          refine G_icmp_eq (tgt := 47) hO dX5_next_30 (by decide) (fun c5 => ?_) (fun c5 => ?_)
          · have h := h.1 c5
            refine G_aload_n hO dX5_next_47 rfl rfl ?_
            refine G_dup hO dX5_next_48 rfl ?_
            refine gi_X5_135 hO dX5_next_49 (ShM.c0 hC) rfl ?_
            refine G_iconst (v := 1) hO dX5_next_52 rfl ?_
            refine G_iadd hO dX5_next_53 ?_
            refine pi_X5_135 hO dX5_next_54 (ShM.c0 hC) rfl ?_
            refine GG.nmw (fun w6 e7 => ?_)
            have h := h w6 e7
            refine G_goto (tgt := 8) hO dX5_next_57 (by decide) ?_
            exact GG.sub (lv2 := [some (.ref (gad Γ 0)), none]) ⟨rfl, trivial⟩ h
          · have h := h.2 c5
            refine G_aload_n hO dX5_next_33 rfl rfl ?_
            refine gr_X5_23 (c := 5) hO dX5_next_34 (ShM.c0 hC) rfl ?_
            refine G_aload_n hO dX5_next_37 rfl rfl ?_
            refine gi_X5_135 hO dX5_next_38 (ShM.c0 hC) rfl ?_
            refine G_iaload hO dX5_next_41 (ShM.c5 hC) c4 ?_
            refine G_bipush (v := 10) hO dX5_next_42 rfl ?_
            refine G_icmp_ne (tgt := 60) hO dX5_next_44 (by decide) (fun c8 => ?_) (fun c8 => ?_)
            · have h := h.1 c8
              exact GG.sub (lv2 := [some (.ref (gad Γ 0)), none]) ⟨rfl, trivial⟩ h
            · have h := h.2 c8
              refine G_aload_n hO dX5_next_47 rfl rfl ?_
              refine G_dup hO dX5_next_48 rfl ?_
              refine gi_X5_135 hO dX5_next_49 (ShM.c0 hC) rfl ?_
              refine G_iconst (v := 1) hO dX5_next_52 rfl ?_
              refine G_iadd hO dX5_next_53 ?_
              refine pi_X5_135 hO dX5_next_54 (ShM.c0 hC) rfl ?_
              refine GG.nmw (fun w9 e10 => ?_)
              have h := h w9 e10
              refine G_goto (tgt := 8) hO dX5_next_57 (by decide) ?_
              exact GG.sub (lv2 := [some (.ref (gad Γ 0)), none]) ⟨rfl, trivial⟩ h)
    (by
        intro w h
        refine G_aload_n hO dX5_next_60 rfl rfl ?_
        refine G_aload_n hO dX5_next_61 rfl rfl ?_
        refine gi_X5_135 hO dX5_next_62 (ShM.c0 hC) rfl ?_
        refine pi_X5_132 hO dX5_next_65 (ShM.c0 hC) rfl ?_
        refine GG.nmw (fun w11 e12 => ?_)
        have h := h w11 e12
        refine G_aload_n hO dX5_next_68 rfl rfl ?_
        refine G_iconst (v := 0) hO dX5_next_69 rfl ?_
        refine pi_X5_129 hO dX5_next_70 (ShM.c0 hC) rfl ?_
        refine GG.nmw (fun w13 e14 => ?_)
        have h := h w13 e14
        refine G_aload_n hO dX5_next_73 rfl rfl ?_
        refine gi_X5_135 hO dX5_next_74 (ShM.c0 hC) rfl ?_
        refine G_aload_n hO dX5_next_77 rfl rfl ?_
        refine gi_X5_126 hO dX5_next_78 (ShM.c0 hC) rfl ?_
        refine G_icmp_ne (tgt := 91) hO dX5_next_81 (by decide) (fun c15 => ?_) (fun c15 => ?_)
        · have h := h.1 c15
          refine G_aload_n hO dX5_next_91 rfl rfl ?_
          refine gr_X5_23 (c := 5) hO dX5_next_92 (ShM.c0 hC) rfl ?_
          refine G_aload_n hO dX5_next_95 rfl rfl ?_
          refine gi_X5_135 hO dX5_next_96 (ShM.c0 hC) rfl ?_
          obtain ⟨c16, h⟩ := h
          refine G_iaload hO dX5_next_99 (ShM.c5 hC) c16 ?_
          refine G_istore_n (lv2 := [some (.ref (gad Γ 0)), some (.int (w13 5 ((w13 0 14)).toNatClampNeg))]) hO dX5_next_100 rfl (by decide) rfl rfl ?_
          refine G_iload_n hO dX5_next_101 rfl rfl ?_
          refine G_callSi hO dX5_next_102 h cl_X5_141 rfl (Nat.le_of_ble_eq_true rfl) (fun r17 w18 h => ?_) rfl
          refine G_if_eq (tgt := 233) hO dX5_next_105 (by decide) (fun c19 => ?_) (fun c19 => ?_)
          · have h := h.1 c19
            refine G_iload_n hO dX5_next_233 rfl rfl ?_
            refine G_callSi hO dX5_next_234 h cl_X5_152 rfl (Nat.le_of_ble_eq_true rfl) (fun r20 w21 h => ?_) rfl
            refine G_if_eq (tgt := 348) hO dX5_next_237 (by decide) (fun c22 => ?_) (fun c22 => ?_)
            · have h := h.1 c22
              refine G_aload_n hO dX5_next_348 rfl rfl ?_
              refine G_dup hO dX5_next_349 rfl ?_
              refine gi_X5_132 hO dX5_next_350 (ShM.c0 hC) rfl ?_
              refine G_iconst (v := 1) hO dX5_next_353 rfl ?_
              refine G_iadd hO dX5_next_354 ?_
              refine pi_X5_132 hO dX5_next_355 (ShM.c0 hC) rfl ?_
              refine GG.nmw (fun w23 e24 => ?_)
              have h := h w23 e24
              refine G_aload_n hO dX5_next_358 rfl rfl ?_
              refine G_iload_n hO dX5_next_359 rfl rfl ?_
              refine G_callSi hO dX5_next_360 h cl_X5_158 rfl (Nat.le_of_ble_eq_true rfl) (fun r25 w26 h => ?_) rfl
              refine G_if_eq (tgt := 370) hO dX5_next_363 (by decide) (fun c27 => ?_) (fun c27 => ?_)
              · have h := h.1 c27
                refine G_bipush (v := 120) hO dX5_next_370 rfl ?_
                refine pi_X5_138 hO dX5_next_372 (ShM.c0 hC) rfl ?_
                refine GG.nmw (fun w28 e29 => ?_)
                have h := h w28 e29
                exact G_vret hO dX5_next_375 rfl (QV.i h)
              · have h := h.2 c27
                refine G_iload_n hO dX5_next_366 rfl rfl ?_
                refine G_goto (tgt := 372) hO dX5_next_367 (by decide) ?_
                refine pi_X5_138 hO dX5_next_372 (ShM.c0 hC) rfl ?_
                refine GG.nmw (fun w30 e31 => ?_)
                have h := h w30 e31
                exact G_vret hO dX5_next_375 rfl (QV.i h)
            · have h := h.2 c22
              refine G_aload_n hO dX5_next_240 rfl rfl ?_
              refine G_iconst (v := 0) hO dX5_next_241 rfl ?_
              refine pi_X5_155 hO dX5_next_242 (ShM.c0 hC) rfl ?_
              refine GG.nmw (fun w32 e33 => ?_)
              have h := h w32 e33
              exact GG.sub (lv2 := [some (.ref (gad Γ 0)), none]) ⟨rfl, trivial⟩ h
          · have h := h.2 c19
            exact GG.sub (lv2 := [some (.ref (gad Γ 0)), none]) ⟨rfl, trivial⟩ h
        · have h := h.2 c15
          refine G_aload_n hO dX5_next_84 rfl rfl ?_
          refine G_bipush (v := 101) hO dX5_next_85 rfl ?_
          refine pi_X5_138 hO dX5_next_87 (ShM.c0 hC) rfl ?_
          refine GG.nmw (fun w34 e35 => ?_)
          have h := h w34 e35
          exact G_vret hO dX5_next_90 rfl (QV.i h))
    (by
        intro w h
        refine G_aload_n hO dX5_next_108 rfl rfl ?_
        refine gi_X5_132 hO dX5_next_109 (ShM.c0 hC) rfl ?_
        refine G_aload_n hO dX5_next_112 rfl rfl ?_
        refine gi_X5_126 hO dX5_next_113 (ShM.c0 hC) rfl ?_
        refine G_icmp_ge (tgt := 185) hO dX5_next_116 (by decide) (fun c36 => ?_) (fun c36 => ?_)
        · have h := h.1 c36
          refine G_aload_n hO dX5_next_185 rfl rfl ?_
          refine gi_X5_132 hO dX5_next_186 (ShM.c0 hC) rfl ?_
          refine G_aload_n hO dX5_next_189 rfl rfl ?_
          refine gi_X5_135 hO dX5_next_190 (ShM.c0 hC) rfl ?_
          refine G_isub hO dX5_next_193 ?_
          refine G_bipush (v := 6) hO dX5_next_194 rfl ?_
          refine G_icmp_le (tgt := 204) hO dX5_next_196 (by decide) (fun c37 => ?_) (fun c37 => ?_)
          · have h := h.1 c37
            exact GG.sub (lv2 := [some (.ref (gad Γ 0)), none]) ⟨rfl, trivial⟩ h
          · have h := h.2 c37
            refine G_aload_n hO dX5_next_199 rfl rfl ?_
            refine G_iconst (v := -1) hO dX5_next_200 rfl ?_
            refine pi_X5_129 hO dX5_next_201 (ShM.c0 hC) rfl ?_
            refine GG.nmw (fun w38 e39 => ?_)
            have h := h w38 e39
            exact GG.sub (lv2 := [some (.ref (gad Γ 0)), none]) ⟨rfl, trivial⟩ h
        · have h := h.2 c36
          refine G_aload_n hO dX5_next_119 rfl rfl ?_
          refine gr_X5_23 (c := 5) hO dX5_next_120 (ShM.c0 hC) rfl ?_
          refine G_aload_n hO dX5_next_123 rfl rfl ?_
          refine gi_X5_132 hO dX5_next_124 (ShM.c0 hC) rfl ?_
          obtain ⟨c40, h⟩ := h
          refine G_iaload hO dX5_next_127 (ShM.c5 hC) c40 ?_
          refine G_callSi hO dX5_next_128 h cl_X5_141 rfl (Nat.le_of_ble_eq_true rfl) (fun r41 w42 h => ?_) rfl
          refine G_if_eq (tgt := 185) hO dX5_next_131 (by decide) (fun c43 => ?_) (fun c43 => ?_)
          · have h := h.1 c43
            refine G_aload_n hO dX5_next_185 rfl rfl ?_
            refine gi_X5_132 hO dX5_next_186 (ShM.c0 hC) rfl ?_
            refine G_aload_n hO dX5_next_189 rfl rfl ?_
            refine gi_X5_135 hO dX5_next_190 (ShM.c0 hC) rfl ?_
            refine G_isub hO dX5_next_193 ?_
            refine G_bipush (v := 6) hO dX5_next_194 rfl ?_
            refine G_icmp_le (tgt := 204) hO dX5_next_196 (by decide) (fun c44 => ?_) (fun c44 => ?_)
            · have h := h.1 c44
              exact GG.sub (lv2 := [some (.ref (gad Γ 0)), none]) ⟨rfl, trivial⟩ h
            · have h := h.2 c44
              refine G_aload_n hO dX5_next_199 rfl rfl ?_
              refine G_iconst (v := -1) hO dX5_next_200 rfl ?_
              refine pi_X5_129 hO dX5_next_201 (ShM.c0 hC) rfl ?_
              refine GG.nmw (fun w45 e46 => ?_)
              have h := h w45 e46
              exact GG.sub (lv2 := [some (.ref (gad Γ 0)), none]) ⟨rfl, trivial⟩ h
          · have h := h.2 c43
            refine G_aload_n hO dX5_next_134 rfl rfl ?_
            refine gi_X5_132 hO dX5_next_135 (ShM.c0 hC) rfl ?_
            refine G_aload_n hO dX5_next_138 rfl rfl ?_
            refine gi_X5_135 hO dX5_next_139 (ShM.c0 hC) rfl ?_
            refine G_isub hO dX5_next_142 ?_
            refine G_bipush (v := 6) hO dX5_next_143 rfl ?_
            refine G_icmp_ge (tgt := 172) hO dX5_next_145 (by decide) (fun c47 => ?_) (fun c47 => ?_)
            · have h := h.1 c47
              refine G_aload_n hO dX5_next_172 rfl rfl ?_
              refine G_dup hO dX5_next_173 rfl ?_
              refine gi_X5_132 hO dX5_next_174 (ShM.c0 hC) rfl ?_
              refine G_iconst (v := 1) hO dX5_next_177 rfl ?_
              refine G_iadd hO dX5_next_178 ?_
              refine pi_X5_132 hO dX5_next_179 (ShM.c0 hC) rfl ?_
              refine GG.nmw (fun w48 e49 => ?_)
              have h := h w48 e49
              refine G_goto (tgt := 108) hO dX5_next_182 (by decide) ?_
              exact GG.sub (lv2 := [some (.ref (gad Γ 0)), none]) ⟨rfl, trivial⟩ h
            · have h := h.2 c47
              refine G_aload_n hO dX5_next_148 rfl rfl ?_
              refine G_bipush (v := 27) hO dX5_next_149 rfl ?_
              refine G_aload_n hO dX5_next_151 rfl rfl ?_
              refine gi_X5_129 hO dX5_next_152 (ShM.c0 hC) rfl ?_
              refine G_imul hO dX5_next_155 ?_
              refine G_aload_n hO dX5_next_156 rfl rfl ?_
              refine gr_X5_23 (c := 5) hO dX5_next_157 (ShM.c0 hC) rfl ?_
              refine G_aload_n hO dX5_next_160 rfl rfl ?_
              refine gi_X5_132 hO dX5_next_161 (ShM.c0 hC) rfl ?_
              obtain ⟨c50, h⟩ := h
              refine G_iaload hO dX5_next_164 (ShM.c5 hC) c50 ?_
              refine G_iadd hO dX5_next_165 ?_
              refine G_bipush (v := 96) hO dX5_next_166 rfl ?_
              refine GG.atpc (pc2 := 168) rfl ?_
              refine G_isub hO dX5_next_168 ?_
              refine pi_X5_129 hO dX5_next_169 (ShM.c0 hC) rfl ?_
              refine GG.nmw (fun w51 e52 => ?_)
              have h := h w51 e52
              refine G_aload_n hO dX5_next_172 rfl rfl ?_
              refine G_dup hO dX5_next_173 rfl ?_
              refine gi_X5_132 hO dX5_next_174 (ShM.c0 hC) rfl ?_
              refine G_iconst (v := 1) hO dX5_next_177 rfl ?_
              refine G_iadd hO dX5_next_178 ?_
              refine pi_X5_132 hO dX5_next_179 (ShM.c0 hC) rfl ?_
              refine GG.nmw (fun w53 e54 => ?_)
              have h := h w53 e54
              refine G_goto (tgt := 108) hO dX5_next_182 (by decide) ?_
              exact GG.sub (lv2 := [some (.ref (gad Γ 0)), none]) ⟨rfl, trivial⟩ h)
    (by
        intro w h
        refine G_aload_n hO dX5_next_204 rfl rfl ?_
        refine G_aload_n hO dX5_next_205 rfl rfl ?_
        refine G_callVi hO dX5_next_206 h cl_X5_144 (ShM.c0 hC) rfl rfl (Nat.le_of_ble_eq_true rfl) (fun r55 w56 h => ?_) rfl
        refine G_iconst (v := -1) hO dX5_next_209 rfl ?_
        refine G_icmp_ne (tgt := 225) hO dX5_next_210 (by decide) (fun c57 => ?_) (fun c57 => ?_)
        · have h := h.1 c57
          refine G_bipush (v := 119) hO dX5_next_225 rfl ?_
          refine pi_X5_138 hO dX5_next_227 (ShM.c0 hC) rfl ?_
          refine GG.nmw (fun w58 e59 => ?_)
          have h := h w58 e59
          refine G_goto (tgt := 375) hO dX5_next_230 (by decide) ?_
          exact G_vret hO dX5_next_375 rfl (QV.i h)
        · have h := h.2 c57
          refine G_aload_n hO dX5_next_213 rfl rfl ?_
          refine G_callVi hO dX5_next_214 h cl_X5_148 (ShM.c0 hC) rfl rfl (Nat.le_of_ble_eq_true rfl) (fun r60 w61 h => ?_) rfl
          refine G_if_ne (tgt := 225) hO dX5_next_217 (by decide) (fun c62 => ?_) (fun c62 => ?_)
          · have h := h.1 c62
            refine G_bipush (v := 119) hO dX5_next_225 rfl ?_
            refine pi_X5_138 hO dX5_next_227 (ShM.c0 hC) rfl ?_
            refine GG.nmw (fun w63 e64 => ?_)
            have h := h w63 e64
            refine G_goto (tgt := 375) hO dX5_next_230 (by decide) ?_
            exact G_vret hO dX5_next_375 rfl (QV.i h)
          · have h := h.2 c62
            refine G_bipush (v := 120) hO dX5_next_220 rfl ?_
            refine G_goto (tgt := 227) hO dX5_next_222 (by decide) ?_
            refine pi_X5_138 hO dX5_next_227 (ShM.c0 hC) rfl ?_
            refine GG.nmw (fun w65 e66 => ?_)
            have h := h w65 e66
            refine G_goto (tgt := 375) hO dX5_next_230 (by decide) ?_
            exact G_vret hO dX5_next_375 rfl (QV.i h))
    (by
        intro w h
        refine G_aload_n hO dX5_next_245 rfl rfl ?_
        refine gi_X5_132 hO dX5_next_246 (ShM.c0 hC) rfl ?_
        refine G_aload_n hO dX5_next_249 rfl rfl ?_
        refine gi_X5_126 hO dX5_next_250 (ShM.c0 hC) rfl ?_
        refine G_icmp_ge (tgt := 321) hO dX5_next_253 (by decide) (fun c67 => ?_) (fun c67 => ?_)
        · have h := h.1 c67
          exact GG.sub (lv2 := [some (.ref (gad Γ 0)), none]) ⟨rfl, trivial⟩ h
        · have h := h.2 c67
          refine G_aload_n hO dX5_next_256 rfl rfl ?_
          refine gr_X5_23 (c := 5) hO dX5_next_257 (ShM.c0 hC) rfl ?_
          refine G_aload_n hO dX5_next_260 rfl rfl ?_
          refine gi_X5_132 hO dX5_next_261 (ShM.c0 hC) rfl ?_
          obtain ⟨c68, h⟩ := h
          refine G_iaload hO dX5_next_264 (ShM.c5 hC) c68 ?_
          refine G_callSi hO dX5_next_265 h cl_X5_152 rfl (Nat.le_of_ble_eq_true rfl) (fun r69 w70 h => ?_) rfl
          refine G_if_eq (tgt := 321) hO dX5_next_268 (by decide) (fun c71 => ?_) (fun c71 => ?_)
          · have h := h.1 c71
            exact GG.sub (lv2 := [some (.ref (gad Γ 0)), none]) ⟨rfl, trivial⟩ h
          · have h := h.2 c71
            refine G_aload_n hO dX5_next_271 rfl rfl ?_
            refine gi_X5_132 hO dX5_next_272 (ShM.c0 hC) rfl ?_
            refine G_aload_n hO dX5_next_275 rfl rfl ?_
            refine gi_X5_135 hO dX5_next_276 (ShM.c0 hC) rfl ?_
            refine G_isub hO dX5_next_279 ?_
            refine G_iconst (v := 4) hO dX5_next_280 rfl ?_
            refine G_icmp_ge (tgt := 308) hO dX5_next_281 (by decide) (fun c72 => ?_) (fun c72 => ?_)
            · have h := h.1 c72
              refine G_aload_n hO dX5_next_308 rfl rfl ?_
              refine G_dup hO dX5_next_309 rfl ?_
              refine gi_X5_132 hO dX5_next_310 (ShM.c0 hC) rfl ?_
              refine G_iconst (v := 1) hO dX5_next_313 rfl ?_
              refine G_iadd hO dX5_next_314 ?_
              refine pi_X5_132 hO dX5_next_315 (ShM.c0 hC) rfl ?_
              refine GG.nmw (fun w73 e74 => ?_)
              have h := h w73 e74
              refine G_goto (tgt := 245) hO dX5_next_318 (by decide) ?_
              exact GG.sub (lv2 := [some (.ref (gad Γ 0)), none]) ⟨rfl, trivial⟩ h
            · have h := h.2 c72
              refine G_aload_n hO dX5_next_284 rfl rfl ?_
              refine G_bipush (v := 10) hO dX5_next_285 rfl ?_
              refine G_aload_n hO dX5_next_287 rfl rfl ?_
              refine gi_X5_155 hO dX5_next_288 (ShM.c0 hC) rfl ?_
              refine G_imul hO dX5_next_291 ?_
              refine G_aload_n hO dX5_next_292 rfl rfl ?_
              refine gr_X5_23 (c := 5) hO dX5_next_293 (ShM.c0 hC) rfl ?_
              refine G_aload_n hO dX5_next_296 rfl rfl ?_
              refine gi_X5_132 hO dX5_next_297 (ShM.c0 hC) rfl ?_
              obtain ⟨c75, h⟩ := h
              refine G_iaload hO dX5_next_300 (ShM.c5 hC) c75 ?_
              refine G_iadd hO dX5_next_301 ?_
              refine G_bipush (v := 48) hO dX5_next_302 rfl ?_
              refine GG.atpc (pc2 := 304) rfl ?_
              refine G_isub hO dX5_next_304 ?_
              refine pi_X5_155 hO dX5_next_305 (ShM.c0 hC) rfl ?_
              refine GG.nmw (fun w76 e77 => ?_)
              have h := h w76 e77
              refine G_aload_n hO dX5_next_308 rfl rfl ?_
              refine G_dup hO dX5_next_309 rfl ?_
              refine gi_X5_132 hO dX5_next_310 (ShM.c0 hC) rfl ?_
              refine G_iconst (v := 1) hO dX5_next_313 rfl ?_
              refine G_iadd hO dX5_next_314 ?_
              refine pi_X5_132 hO dX5_next_315 (ShM.c0 hC) rfl ?_
              refine GG.nmw (fun w78 e79 => ?_)
              have h := h w78 e79
              refine G_goto (tgt := 245) hO dX5_next_318 (by decide) ?_
              exact GG.sub (lv2 := [some (.ref (gad Γ 0)), none]) ⟨rfl, trivial⟩ h)
    (by
        intro w h
        refine G_aload_n hO dX5_next_321 rfl rfl ?_
        refine G_aload_n hO dX5_next_322 rfl rfl ?_
        refine gi_X5_132 hO dX5_next_323 (ShM.c0 hC) rfl ?_
        refine G_aload_n hO dX5_next_326 rfl rfl ?_
        refine gi_X5_135 hO dX5_next_327 (ShM.c0 hC) rfl ?_
        refine G_isub hO dX5_next_330 ?_
        refine G_iconst (v := 4) hO dX5_next_331 rfl ?_
        refine G_icmp_le (tgt := 340) hO dX5_next_332 (by decide) (fun c80 => ?_) (fun c80 => ?_)
        · have h := h.1 c80
          refine G_bipush (v := 48) hO dX5_next_340 rfl ?_
          refine pi_X5_138 hO dX5_next_342 (ShM.c0 hC) rfl ?_
          refine GG.nmw (fun w81 e82 => ?_)
          have h := h w81 e82
          refine G_goto (tgt := 375) hO dX5_next_345 (by decide) ?_
          exact G_vret hO dX5_next_375 rfl (QV.i h)
        · have h := h.2 c80
          refine G_bipush (v := 120) hO dX5_next_335 rfl ?_
          refine G_goto (tgt := 342) hO dX5_next_337 (by decide) ?_
          refine pi_X5_138 hO dX5_next_342 (ShM.c0 hC) rfl ?_
          refine GG.nmw (fun w83 e84 => ?_)
          have h := h w83 e84
          refine G_goto (tgt := 375) hO dX5_next_345 (by decide) ?_
          exact G_vret hO dX5_next_375 rfl (QV.i h))
  refine G_aload_n hO dX5_next_0 rfl rfl ?_
  refine G_aload_n hO dX5_next_1 rfl rfl ?_
  refine gi_X5_132 hO dX5_next_2 (ShM.c0 hC) rfl ?_
  refine pi_X5_135 hO dX5_next_5 (ShM.c0 hC) rfl ?_
  refine GG.nmw (fun w1 e2 => ?_)
  have h := h w1 e2
  exact GG.sub (lv2 := [some (.ref (gad Γ 0)), none]) ⟨rfl, trivial⟩ h
def wp_X5_takes (Γ : Gx) (d : Nat) (p1 : Int32) (w : Wd) (Q : Int32 → Wd → Prop) : Prop :=
  ((¬ (w 0 16) = (119 : Int32) → Q (0 : Int32) w) ∧ ((w 0 16) = (119 : Int32) → (((w 0 18) = p1 → CV Γ d M_X5_next [.ref (gad Γ 0)] w (fun w4 => Q (1 : Int32) w4)) ∧ (¬ (w 0 18) = p1 → Q (0 : Int32) w))))
set_option maxRecDepth 20000 in
theorem con_X5_takes {Γ : Gx} {d : Nat} (hG : GM Γ) {p1 : Int32}  {w : Wd} {Q : Int32 → Wd → Prop} (h : wp_X5_takes Γ d p1 w Q) : CI Γ (d + 1) M_X5_takes [.ref (gad Γ 0), .int p1] w Q := by
  have hC := hG.2
  refine Con.of RX5 cX5_takes 2 (some .boolean) [some (.ref (gad Γ 0)), some (.int p1)] rfl rfl (by decide +kernel) hG.1 (catR (catI cat0)) (Nat.le_of_ble_eq_true rfl) rfl ?_
  intro X hO
  refine G_aload_n hO dX5_takes_0 rfl rfl ?_
  refine gi_X5_138 hO dX5_takes_1 (ShM.c0 hC) rfl ?_
  refine G_bipush (v := 119) hO dX5_takes_4 rfl ?_
  refine G_icmp_ne (tgt := 17) hO dX5_takes_6 (by decide) (fun c1 => ?_) (fun c1 => ?_)
  · have h := h.1 c1
    refine G_iconst (v := 0) hO dX5_takes_17 rfl ?_
    exact G_iret hO dX5_takes_18 rfl rfl (QI.i h)
  · have h := h.2 c1
    refine G_aload_n hO dX5_takes_9 rfl rfl ?_
    refine gi_X5_129 hO dX5_takes_10 (ShM.c0 hC) rfl ?_
    refine G_iload_n hO dX5_takes_13 rfl rfl ?_
    refine G_icmp_eq (tgt := 19) hO dX5_takes_14 (by decide) (fun c2 => ?_) (fun c2 => ?_)
    · have h := h.1 c2
      refine G_aload_n hO dX5_takes_19 rfl rfl ?_
      refine G_callVv hO dX5_takes_20 h cl_X5_161 (ShM.c0 hC) rfl rfl (Nat.le_of_ble_eq_true rfl) (fun w4 h => ?_) rfl
      refine G_iconst (v := 1) hO dX5_takes_23 rfl ?_
      exact G_iret hO dX5_takes_24 rfl rfl (QI.i h)
    · have h := h.2 c2
      refine G_iconst (v := 0) hO dX5_takes_17 rfl ?_
      exact G_iret hO dX5_takes_18 rfl rfl (QI.i h)
def wp_X5_codes (Γ : Gx) (d : Nat) (p1 : Int32) (w : Wd) (Q : Wd → Prop) : Prop :=
  (∀ w1 : Wd, w1 = wset w 0 13 ((w 0 13) + (1 : Int32)) → (vp_in (w 0 13) 3000 ∧ (∀ w4 : Wd, w4 = wset w1 8 ((w 0 13)).toNatClampNeg p1 → Q w4)))
set_option maxRecDepth 20000 in
theorem con_X5_codes {Γ : Gx} {d : Nat} (hG : GM Γ) {p1 : Int32}  {w : Wd} {Q : Wd → Prop} (h : wp_X5_codes Γ d p1 w Q) : CV Γ (d + 1) M_X5_codes [.ref (gad Γ 0), .int p1] w Q := by
  have hC := hG.2
  refine Con.of RX5 cX5_codes 2 none [some (.ref (gad Γ 0)), some (.int p1)] rfl rfl (by decide +kernel) hG.1 (catR (catI cat0)) (Nat.le_of_ble_eq_true rfl) rfl ?_
  intro X hO
  refine G_aload_n hO dX5_codes_0 rfl rfl ?_
  refine gr_X5_32 (c := 8) hO dX5_codes_1 (ShM.c0 hC) rfl ?_
  refine G_aload_n hO dX5_codes_4 rfl rfl ?_
  refine G_dup hO dX5_codes_5 rfl ?_
  refine gi_X5_164 hO dX5_codes_6 (ShM.c0 hC) rfl ?_
  refine G_dup_x1 hO dX5_codes_9 rfl rfl ?_
  refine G_iconst (v := 1) hO dX5_codes_10 rfl ?_
  refine G_iadd hO dX5_codes_11 ?_
  refine pi_X5_164 hO dX5_codes_12 (ShM.c0 hC) rfl ?_
  refine GG.nmw (fun w1 e2 => ?_)
  have h := h w1 e2
  refine G_iload_n hO dX5_codes_15 rfl rfl ?_
  obtain ⟨c3, h⟩ := h
  refine G_iastore hO dX5_codes_16 (ShM.c8 hC) c3 ?_
  refine GG.nmw (fun w4 e5 => ?_)
  have h := h w4 e5
  exact G_vret hO dX5_codes_17 rfl (QV.i h)
def wp_X5_rank (Γ : Gx) (d : Nat) (p1 : Int32) (w : Wd) (Q : Int32 → Wd → Prop) : Prop :=
  (((p1 = (12 : Int32)) → Q (1 : Int32) w) ∧ ((p1 = (11 : Int32)) → Q (2 : Int32) w) ∧ ((p1 = (13 : Int32)) → Q (3 : Int32) w) ∧ ((p1 = (9 : Int32) ∨ p1 = (10 : Int32)) → Q (4 : Int32) w) ∧ ((p1 = (6 : Int32) ∨ p1 = (7 : Int32)) → Q (5 : Int32) w) ∧ ((p1 = (8 : Int32)) → Q (6 : Int32) w) ∧ ((p1 = (14 : Int32)) → Q (7 : Int32) w) ∧ ((¬ p1 = (6 : Int32) ∧ ¬ p1 = (7 : Int32) ∧ ¬ p1 = (8 : Int32) ∧ ¬ p1 = (9 : Int32) ∧ ¬ p1 = (10 : Int32) ∧ ¬ p1 = (11 : Int32) ∧ ¬ p1 = (12 : Int32) ∧ ¬ p1 = (13 : Int32) ∧ ¬ p1 = (14 : Int32)) → Q (0 : Int32) w))
set_option maxRecDepth 20000 in
theorem con_X5_rank {Γ : Gx} {d : Nat} (hG : GM Γ) {p1 : Int32}  {w : Wd} {Q : Int32 → Wd → Prop} (h : wp_X5_rank Γ d p1 w Q) : CI Γ (d + 1) M_X5_rank [.int p1] w Q := by
  have hC := hG.2
  refine Con.of RX5 cX5_rank 1 (some .int) [some (.int p1)] rfl rfl (by decide +kernel) hG.1 (catI cat0) (Nat.le_of_ble_eq_true rfl) rfl ?_
  intro X hO
  refine G_iload_n hO dX5_rank_0 rfl rfl ?_
  by_cases e6 : p1 = (6 : Int32)
  · have h := h.2.2.2.2.1 (Or.inl e6)
    refine G_tabIn (tgt := 60) (j := 0) hO dX5_rank_1 (by decide) rfl (sweq e6 (by decide)) (by decide) ?_
    refine G_iconst (v := 5) hO dX5_rank_60 rfl ?_
    exact G_iret hO dX5_rank_61 rfl rfl (QI.i h)
  · by_cases e7 : p1 = (7 : Int32)
    · have h := h.2.2.2.2.1 (Or.inr e7)
      refine G_tabIn (tgt := 60) (j := 1) hO dX5_rank_1 (by decide) rfl (sweq e7 (by decide)) (by decide) ?_
      refine G_iconst (v := 5) hO dX5_rank_60 rfl ?_
      exact G_iret hO dX5_rank_61 rfl rfl (QI.i h)
    · by_cases e8 : p1 = (8 : Int32)
      · have h := h.2.2.2.2.2.1 e8
        refine G_tabIn (tgt := 62) (j := 2) hO dX5_rank_1 (by decide) rfl (sweq e8 (by decide)) (by decide) ?_
        refine G_bipush (v := 6) hO dX5_rank_62 rfl ?_
        exact G_iret hO dX5_rank_64 rfl rfl (QI.i h)
      · by_cases e9 : p1 = (9 : Int32)
        · have h := h.2.2.2.1 (Or.inl e9)
          refine G_tabIn (tgt := 58) (j := 3) hO dX5_rank_1 (by decide) rfl (sweq e9 (by decide)) (by decide) ?_
          refine G_iconst (v := 4) hO dX5_rank_58 rfl ?_
          exact G_iret hO dX5_rank_59 rfl rfl (QI.i h)
        · by_cases e10 : p1 = (10 : Int32)
          · have h := h.2.2.2.1 (Or.inr e10)
            refine G_tabIn (tgt := 58) (j := 4) hO dX5_rank_1 (by decide) rfl (sweq e10 (by decide)) (by decide) ?_
            refine G_iconst (v := 4) hO dX5_rank_58 rfl ?_
            exact G_iret hO dX5_rank_59 rfl rfl (QI.i h)
          · by_cases e11 : p1 = (11 : Int32)
            · have h := h.2.1 e11
              refine G_tabIn (tgt := 54) (j := 5) hO dX5_rank_1 (by decide) rfl (sweq e11 (by decide)) (by decide) ?_
              refine G_iconst (v := 2) hO dX5_rank_54 rfl ?_
              exact G_iret hO dX5_rank_55 rfl rfl (QI.i h)
            · by_cases e12 : p1 = (12 : Int32)
              · have h := h.1 e12
                refine G_tabIn (tgt := 52) (j := 6) hO dX5_rank_1 (by decide) rfl (sweq e12 (by decide)) (by decide) ?_
                refine G_iconst (v := 1) hO dX5_rank_52 rfl ?_
                exact G_iret hO dX5_rank_53 rfl rfl (QI.i h)
              · by_cases e13 : p1 = (13 : Int32)
                · have h := h.2.2.1 e13
                  refine G_tabIn (tgt := 56) (j := 7) hO dX5_rank_1 (by decide) rfl (sweq e13 (by decide)) (by decide) ?_
                  refine G_iconst (v := 3) hO dX5_rank_56 rfl ?_
                  exact G_iret hO dX5_rank_57 rfl rfl (QI.i h)
                · by_cases e14 : p1 = (14 : Int32)
                  · have h := h.2.2.2.2.2.2.1 e14
                    refine G_tabIn (tgt := 65) (j := 8) hO dX5_rank_1 (by decide) rfl (sweq e14 (by decide)) (by decide) ?_
                    refine G_bipush (v := 7) hO dX5_rank_65 rfl ?_
                    exact G_iret hO dX5_rank_67 rfl rfl (QI.i h)
                  · have h := h.2.2.2.2.2.2.2 ⟨e6, e7, e8, e9, e10, e11, e12, e13, e14⟩
                    refine G_tabOut (tgt := 68) hO dX5_rank_1 (by decide) (by decide) (fun j hj => ?_) ?_
                    · rcases (show j = 0 ∨ j = 1 ∨ j = 2 ∨ j = 3 ∨ j = 4 ∨ j = 5 ∨ j = 6 ∨ j = 7 ∨ j = 8 from by have : j < 9 := hj; omega) with rfl | rfl | rfl | rfl | rfl | rfl | rfl | rfl | rfl
                      · exact swne e6 (by decide)
                      · exact swne e7 (by decide)
                      · exact swne e8 (by decide)
                      · exact swne e9 (by decide)
                      · exact swne e10 (by decide)
                      · exact swne e11 (by decide)
                      · exact swne e12 (by decide)
                      · exact swne e13 (by decide)
                      · exact swne e14 (by decide)
                    · refine G_iconst (v := 0) hO dX5_rank_68 rfl ?_
                      exact G_iret hO dX5_rank_69 rfl rfl (QI.i h)
def wp_X5_lays (Γ : Gx) (d : Nat) (p1 : Int32) (w : Wd) (Q : Wd → Prop) : Prop :=
  ∀ (P_0 : Wd → Prop),
  (∀ (w : Wd), (((w 0 20) ≤ 0 → Q w) ∧ (¬ (w 0 20) ≤ 0 → (vp_in ((w 0 20) - (1 : Int32)) 200 ∧ CI Γ d M_X5_rank [.int (w 9 (((w 0 20) - (1 : Int32))).toNatClampNeg)] w (fun r20 w21 => ((r20 < p1 → Q w21) ∧ (¬ r20 < p1 → (∀ w23 : Wd, w23 = wset w21 0 20 ((w21 0 20) - (1 : Int32)) → (vp_in (w23 0 20) 200 ∧ CV Γ d M_X5_codes [.ref (gad Γ 0), .int (w23 9 ((w23 0 20)).toNatClampNeg)] w23 (fun w27 => (vp_in (w27 0 20) 200 ∧ (((w27 9 ((w27 0 20)).toNatClampNeg) = (13 : Int32) → (∀ w30 : Wd, w30 = wset w27 0 21 ((w27 0 21) - (1 : Int32)) → P_0 w30)) ∧ (¬ (w27 9 ((w27 0 20)).toNatClampNeg) = (13 : Int32) → ((¬ (w27 9 ((w27 0 20)).toNatClampNeg) = (14 : Int32) → P_0 w27) ∧ ((w27 9 ((w27 0 20)).toNatClampNeg) = (14 : Int32) → (∀ w33 : Wd, w33 = wset w27 0 21 ((w27 0 21) - (1 : Int32)) → P_0 w33))))))))))))))) → P_0 w) →
  (((w 0 20) ≤ 0 → Q w) ∧ (¬ (w 0 20) ≤ 0 → (vp_in ((w 0 20) - (1 : Int32)) 200 ∧ CI Γ d M_X5_rank [.int (w 9 (((w 0 20) - (1 : Int32))).toNatClampNeg)] w (fun r3 w4 => ((r3 < p1 → Q w4) ∧ (¬ r3 < p1 → (∀ w6 : Wd, w6 = wset w4 0 20 ((w4 0 20) - (1 : Int32)) → (vp_in (w6 0 20) 200 ∧ CV Γ d M_X5_codes [.ref (gad Γ 0), .int (w6 9 ((w6 0 20)).toNatClampNeg)] w6 (fun w10 => (vp_in (w10 0 20) 200 ∧ (((w10 9 ((w10 0 20)).toNatClampNeg) = (13 : Int32) → (∀ w13 : Wd, w13 = wset w10 0 21 ((w10 0 21) - (1 : Int32)) → P_0 w13)) ∧ (¬ (w10 9 ((w10 0 20)).toNatClampNeg) = (13 : Int32) → ((¬ (w10 9 ((w10 0 20)).toNatClampNeg) = (14 : Int32) → P_0 w10) ∧ ((w10 9 ((w10 0 20)).toNatClampNeg) = (14 : Int32) → (∀ w16 : Wd, w16 = wset w10 0 21 ((w10 0 21) - (1 : Int32)) → P_0 w16)))))))))))))))
set_option maxRecDepth 20000 in
theorem con_X5_lays {Γ : Gx} {d : Nat} (hG : GM Γ) {p1 : Int32}  {w : Wd} {Q : Wd → Prop} (h : wp_X5_lays Γ d p1 w Q) : CV Γ (d + 1) M_X5_lays [.ref (gad Γ 0), .int p1] w Q := by
  have hC := hG.2
  refine Con.of RX5 cX5_lays 2 none [some (.ref (gad Γ 0)), some (.int p1)] rfl rfl (by decide +kernel) hG.1 (catR (catI cat0)) (Nat.le_of_ble_eq_true rfl) rfl ?_
  intro X hO
  have h := h
    (fun (w : Wd) => GG Γ X (d + 1) 2 (QV Q) 0 [some (.ref (gad Γ 0)), some (.int p1)] [] w)
    (by
        intro w h
        refine G_aload_n hO dX5_lays_0 rfl rfl ?_
        refine gi_X5_167 hO dX5_lays_1 (ShM.c0 hC) rfl ?_
        refine G_if_le (tgt := 89) hO dX5_lays_4 (by decide) (fun c18 => ?_) (fun c18 => ?_)
        · have h := h.1 c18
          exact G_vret hO dX5_lays_89 rfl (QV.i h)
        · have h := h.2 c18
          refine G_aload_n hO dX5_lays_7 rfl rfl ?_
          refine gr_X5_35 (c := 9) hO dX5_lays_8 (ShM.c0 hC) rfl ?_
          refine G_aload_n hO dX5_lays_11 rfl rfl ?_
          refine gi_X5_167 hO dX5_lays_12 (ShM.c0 hC) rfl ?_
          refine G_iconst (v := 1) hO dX5_lays_15 rfl ?_
          refine G_isub hO dX5_lays_16 ?_
          obtain ⟨c19, h⟩ := h
          refine G_iaload hO dX5_lays_17 (ShM.c9 hC) c19 ?_
          refine G_callSi hO dX5_lays_18 h cl_X5_170 rfl (Nat.le_of_ble_eq_true rfl) (fun r20 w21 h => ?_) rfl
          refine G_iload_n hO dX5_lays_21 rfl rfl ?_
          refine G_icmp_lt (tgt := 89) hO dX5_lays_22 (by decide) (fun c22 => ?_) (fun c22 => ?_)
          · have h := h.1 c22
            exact G_vret hO dX5_lays_89 rfl (QV.i h)
          · have h := h.2 c22
            refine G_aload_n hO dX5_lays_25 rfl rfl ?_
            refine G_dup hO dX5_lays_26 rfl ?_
            refine gi_X5_167 hO dX5_lays_27 (ShM.c0 hC) rfl ?_
            refine G_iconst (v := 1) hO dX5_lays_30 rfl ?_
            refine G_isub hO dX5_lays_31 ?_
            refine pi_X5_167 hO dX5_lays_32 (ShM.c0 hC) rfl ?_
            refine GG.nmw (fun w23 e24 => ?_)
            have h := h w23 e24
            refine G_aload_n hO dX5_lays_35 rfl rfl ?_
            refine G_aload_n hO dX5_lays_36 rfl rfl ?_
            refine gr_X5_35 (c := 9) hO dX5_lays_37 (ShM.c0 hC) rfl ?_
            refine G_aload_n hO dX5_lays_40 rfl rfl ?_
            refine gi_X5_167 hO dX5_lays_41 (ShM.c0 hC) rfl ?_
            obtain ⟨c25, h⟩ := h
            refine G_iaload hO dX5_lays_44 (ShM.c9 hC) c25 ?_
            refine GG.atpc (pc2 := 45) rfl ?_
            refine G_callVv hO dX5_lays_45 h cl_X5_72 (ShM.c0 hC) rfl rfl (Nat.le_of_ble_eq_true rfl) (fun w27 h => ?_) rfl
            refine G_aload_n hO dX5_lays_48 rfl rfl ?_
            refine gr_X5_35 (c := 9) hO dX5_lays_49 (ShM.c0 hC) rfl ?_
            refine G_aload_n hO dX5_lays_52 rfl rfl ?_
            refine gi_X5_167 hO dX5_lays_53 (ShM.c0 hC) rfl ?_
            obtain ⟨c28, h⟩ := h
            refine G_iaload hO dX5_lays_56 (ShM.c9 hC) c28 ?_
            refine G_bipush (v := 13) hO dX5_lays_57 rfl ?_
            refine G_icmp_eq (tgt := 76) hO dX5_lays_59 (by decide) (fun c29 => ?_) (fun c29 => ?_)
            · have h := h.1 c29
              refine G_aload_n hO dX5_lays_76 rfl rfl ?_
              refine G_dup hO dX5_lays_77 rfl ?_
              refine gi_X5_173 hO dX5_lays_78 (ShM.c0 hC) rfl ?_
              refine G_iconst (v := 1) hO dX5_lays_81 rfl ?_
              refine G_isub hO dX5_lays_82 ?_
              refine pi_X5_173 hO dX5_lays_83 (ShM.c0 hC) rfl ?_
              refine GG.nmw (fun w30 e31 => ?_)
              have h := h w30 e31
              refine G_goto (tgt := 0) hO dX5_lays_86 (by decide) ?_
              exact GG.sub (lv2 := [some (.ref (gad Γ 0)), some (.int p1)]) ⟨rfl, ⟨rfl, trivial⟩⟩ h
            · have h := h.2 c29
              refine G_aload_n hO dX5_lays_62 rfl rfl ?_
              refine gr_X5_35 (c := 9) hO dX5_lays_63 (ShM.c0 hC) rfl ?_
              refine G_aload_n hO dX5_lays_66 rfl rfl ?_
              refine gi_X5_167 hO dX5_lays_67 (ShM.c0 hC) rfl ?_
              refine G_iaload hO dX5_lays_70 (ShM.c9 hC) c28 ?_
              refine G_bipush (v := 14) hO dX5_lays_71 rfl ?_
              refine G_icmp_ne (tgt := 0) hO dX5_lays_73 (by decide) (fun c32 => ?_) (fun c32 => ?_)
              · have h := h.1 c32
                exact GG.sub (lv2 := [some (.ref (gad Γ 0)), some (.int p1)]) ⟨rfl, ⟨rfl, trivial⟩⟩ h
              · have h := h.2 c32
                refine G_aload_n hO dX5_lays_76 rfl rfl ?_
                refine G_dup hO dX5_lays_77 rfl ?_
                refine gi_X5_173 hO dX5_lays_78 (ShM.c0 hC) rfl ?_
                refine G_iconst (v := 1) hO dX5_lays_81 rfl ?_
                refine G_isub hO dX5_lays_82 ?_
                refine pi_X5_173 hO dX5_lays_83 (ShM.c0 hC) rfl ?_
                refine GG.nmw (fun w33 e34 => ?_)
                have h := h w33 e34
                refine G_goto (tgt := 0) hO dX5_lays_86 (by decide) ?_
                exact GG.sub (lv2 := [some (.ref (gad Γ 0)), some (.int p1)]) ⟨rfl, ⟨rfl, trivial⟩⟩ h)
  refine G_aload_n hO dX5_lays_0 rfl rfl ?_
  refine gi_X5_167 hO dX5_lays_1 (ShM.c0 hC) rfl ?_
  refine G_if_le (tgt := 89) hO dX5_lays_4 (by decide) (fun c1 => ?_) (fun c1 => ?_)
  · have h := h.1 c1
    exact G_vret hO dX5_lays_89 rfl (QV.i h)
  · have h := h.2 c1
    refine G_aload_n hO dX5_lays_7 rfl rfl ?_
    refine gr_X5_35 (c := 9) hO dX5_lays_8 (ShM.c0 hC) rfl ?_
    refine G_aload_n hO dX5_lays_11 rfl rfl ?_
    refine gi_X5_167 hO dX5_lays_12 (ShM.c0 hC) rfl ?_
    refine G_iconst (v := 1) hO dX5_lays_15 rfl ?_
    refine G_isub hO dX5_lays_16 ?_
    obtain ⟨c2, h⟩ := h
    refine G_iaload hO dX5_lays_17 (ShM.c9 hC) c2 ?_
    refine G_callSi hO dX5_lays_18 h cl_X5_170 rfl (Nat.le_of_ble_eq_true rfl) (fun r3 w4 h => ?_) rfl
    refine G_iload_n hO dX5_lays_21 rfl rfl ?_
    refine G_icmp_lt (tgt := 89) hO dX5_lays_22 (by decide) (fun c5 => ?_) (fun c5 => ?_)
    · have h := h.1 c5
      exact G_vret hO dX5_lays_89 rfl (QV.i h)
    · have h := h.2 c5
      refine G_aload_n hO dX5_lays_25 rfl rfl ?_
      refine G_dup hO dX5_lays_26 rfl ?_
      refine gi_X5_167 hO dX5_lays_27 (ShM.c0 hC) rfl ?_
      refine G_iconst (v := 1) hO dX5_lays_30 rfl ?_
      refine G_isub hO dX5_lays_31 ?_
      refine pi_X5_167 hO dX5_lays_32 (ShM.c0 hC) rfl ?_
      refine GG.nmw (fun w6 e7 => ?_)
      have h := h w6 e7
      refine G_aload_n hO dX5_lays_35 rfl rfl ?_
      refine G_aload_n hO dX5_lays_36 rfl rfl ?_
      refine gr_X5_35 (c := 9) hO dX5_lays_37 (ShM.c0 hC) rfl ?_
      refine G_aload_n hO dX5_lays_40 rfl rfl ?_
      refine gi_X5_167 hO dX5_lays_41 (ShM.c0 hC) rfl ?_
      obtain ⟨c8, h⟩ := h
      refine G_iaload hO dX5_lays_44 (ShM.c9 hC) c8 ?_
      refine GG.atpc (pc2 := 45) rfl ?_
      refine G_callVv hO dX5_lays_45 h cl_X5_72 (ShM.c0 hC) rfl rfl (Nat.le_of_ble_eq_true rfl) (fun w10 h => ?_) rfl
      refine G_aload_n hO dX5_lays_48 rfl rfl ?_
      refine gr_X5_35 (c := 9) hO dX5_lays_49 (ShM.c0 hC) rfl ?_
      refine G_aload_n hO dX5_lays_52 rfl rfl ?_
      refine gi_X5_167 hO dX5_lays_53 (ShM.c0 hC) rfl ?_
      obtain ⟨c11, h⟩ := h
      refine G_iaload hO dX5_lays_56 (ShM.c9 hC) c11 ?_
      refine G_bipush (v := 13) hO dX5_lays_57 rfl ?_
      refine G_icmp_eq (tgt := 76) hO dX5_lays_59 (by decide) (fun c12 => ?_) (fun c12 => ?_)
      · have h := h.1 c12
        refine G_aload_n hO dX5_lays_76 rfl rfl ?_
        refine G_dup hO dX5_lays_77 rfl ?_
        refine gi_X5_173 hO dX5_lays_78 (ShM.c0 hC) rfl ?_
        refine G_iconst (v := 1) hO dX5_lays_81 rfl ?_
        refine G_isub hO dX5_lays_82 ?_
        refine pi_X5_173 hO dX5_lays_83 (ShM.c0 hC) rfl ?_
        refine GG.nmw (fun w13 e14 => ?_)
        have h := h w13 e14
        refine G_goto (tgt := 0) hO dX5_lays_86 (by decide) ?_
        exact GG.sub (lv2 := [some (.ref (gad Γ 0)), some (.int p1)]) ⟨rfl, ⟨rfl, trivial⟩⟩ h
      · have h := h.2 c12
        refine G_aload_n hO dX5_lays_62 rfl rfl ?_
        refine gr_X5_35 (c := 9) hO dX5_lays_63 (ShM.c0 hC) rfl ?_
        refine G_aload_n hO dX5_lays_66 rfl rfl ?_
        refine gi_X5_167 hO dX5_lays_67 (ShM.c0 hC) rfl ?_
        refine G_iaload hO dX5_lays_70 (ShM.c9 hC) c11 ?_
        refine G_bipush (v := 14) hO dX5_lays_71 rfl ?_
        refine G_icmp_ne (tgt := 0) hO dX5_lays_73 (by decide) (fun c15 => ?_) (fun c15 => ?_)
        · have h := h.1 c15
          exact GG.sub (lv2 := [some (.ref (gad Γ 0)), some (.int p1)]) ⟨rfl, ⟨rfl, trivial⟩⟩ h
        · have h := h.2 c15
          refine G_aload_n hO dX5_lays_76 rfl rfl ?_
          refine G_dup hO dX5_lays_77 rfl ?_
          refine gi_X5_173 hO dX5_lays_78 (ShM.c0 hC) rfl ?_
          refine G_iconst (v := 1) hO dX5_lays_81 rfl ?_
          refine G_isub hO dX5_lays_82 ?_
          refine pi_X5_173 hO dX5_lays_83 (ShM.c0 hC) rfl ?_
          refine GG.nmw (fun w16 e17 => ?_)
          have h := h w16 e17
          refine G_goto (tgt := 0) hO dX5_lays_86 (by decide) ?_
          exact GG.sub (lv2 := [some (.ref (gad Γ 0)), some (.int p1)]) ⟨rfl, ⟨rfl, trivial⟩⟩ h
def wp_X5_push (Γ : Gx) (d : Nat) (p1 : Int32) (w : Wd) (Q : Wd → Prop) : Prop :=
  (∀ w1 : Wd, w1 = wset w 0 20 ((w 0 20) + (1 : Int32)) → (vp_in (w 0 20) 200 ∧ (∀ w4 : Wd, w4 = wset w1 9 ((w 0 20)).toNatClampNeg p1 → ((p1 = (13 : Int32) → (∀ w7 : Wd, w7 = wset w4 0 21 ((w4 0 21) + (1 : Int32)) → Q w7)) ∧ (¬ p1 = (13 : Int32) → ((p1 = (14 : Int32) → (∀ w10 : Wd, w10 = wset w4 0 21 ((w4 0 21) + (1 : Int32)) → Q w10)) ∧ (¬ p1 = (14 : Int32) → CI Γ d M_X5_rank [.int p1] w4 (fun r12 w13 => ((¬ r12 = 0 → Q w13) ∧ (r12 = 0 → (∀ w15 : Wd, w15 = wset w13 0 21 ((w13 0 21) + (1 : Int32)) → Q w15)))))))))))
set_option maxRecDepth 20000 in
theorem con_X5_push {Γ : Gx} {d : Nat} (hG : GM Γ) {p1 : Int32}  {w : Wd} {Q : Wd → Prop} (h : wp_X5_push Γ d p1 w Q) : CV Γ (d + 1) M_X5_push [.ref (gad Γ 0), .int p1] w Q := by
  have hC := hG.2
  refine Con.of RX5 cX5_push 2 none [some (.ref (gad Γ 0)), some (.int p1)] rfl rfl (by decide +kernel) hG.1 (catR (catI cat0)) (Nat.le_of_ble_eq_true rfl) rfl ?_
  intro X hO
  refine G_aload_n hO dX5_push_0 rfl rfl ?_
  refine gr_X5_35 (c := 9) hO dX5_push_1 (ShM.c0 hC) rfl ?_
  refine G_aload_n hO dX5_push_4 rfl rfl ?_
  refine G_dup hO dX5_push_5 rfl ?_
  refine gi_X5_167 hO dX5_push_6 (ShM.c0 hC) rfl ?_
  refine G_dup_x1 hO dX5_push_9 rfl rfl ?_
  refine G_iconst (v := 1) hO dX5_push_10 rfl ?_
  refine G_iadd hO dX5_push_11 ?_
  refine pi_X5_167 hO dX5_push_12 (ShM.c0 hC) rfl ?_
  refine GG.nmw (fun w1 e2 => ?_)
  have h := h w1 e2
  refine G_iload_n hO dX5_push_15 rfl rfl ?_
  obtain ⟨c3, h⟩ := h
  refine G_iastore hO dX5_push_16 (ShM.c9 hC) c3 ?_
  refine GG.nmw (fun w4 e5 => ?_)
  have h := h w4 e5
  refine G_iload_n hO dX5_push_17 rfl rfl ?_
  refine GG.atpc (pc2 := 18) rfl ?_
  refine G_bipush (v := 13) hO dX5_push_18 rfl ?_
  refine G_icmp_eq (tgt := 36) hO dX5_push_20 (by decide) (fun c6 => ?_) (fun c6 => ?_)
  · have h := h.1 c6
    refine G_aload_n hO dX5_push_36 rfl rfl ?_
    refine G_dup hO dX5_push_37 rfl ?_
    refine gi_X5_173 hO dX5_push_38 (ShM.c0 hC) rfl ?_
    refine G_iconst (v := 1) hO dX5_push_41 rfl ?_
    refine G_iadd hO dX5_push_42 ?_
    refine pi_X5_173 hO dX5_push_43 (ShM.c0 hC) rfl ?_
    refine GG.nmw (fun w7 e8 => ?_)
    have h := h w7 e8
    exact G_vret hO dX5_push_46 rfl (QV.i h)
  · have h := h.2 c6
    refine G_iload_n hO dX5_push_23 rfl rfl ?_
    refine G_bipush (v := 14) hO dX5_push_24 rfl ?_
    refine G_icmp_eq (tgt := 36) hO dX5_push_26 (by decide) (fun c9 => ?_) (fun c9 => ?_)
    · have h := h.1 c9
      refine G_aload_n hO dX5_push_36 rfl rfl ?_
      refine G_dup hO dX5_push_37 rfl ?_
      refine gi_X5_173 hO dX5_push_38 (ShM.c0 hC) rfl ?_
      refine G_iconst (v := 1) hO dX5_push_41 rfl ?_
      refine G_iadd hO dX5_push_42 ?_
      refine pi_X5_173 hO dX5_push_43 (ShM.c0 hC) rfl ?_
      refine GG.nmw (fun w10 e11 => ?_)
      have h := h w10 e11
      exact G_vret hO dX5_push_46 rfl (QV.i h)
    · have h := h.2 c9
      refine G_iload_n hO dX5_push_29 rfl rfl ?_
      refine G_callSi hO dX5_push_30 h cl_X5_170 rfl (Nat.le_of_ble_eq_true rfl) (fun r12 w13 h => ?_) rfl
      refine G_if_ne (tgt := 46) hO dX5_push_33 (by decide) (fun c14 => ?_) (fun c14 => ?_)
      · have h := h.1 c14
        exact G_vret hO dX5_push_46 rfl (QV.i h)
      · have h := h.2 c14
        refine G_aload_n hO dX5_push_36 rfl rfl ?_
        refine G_dup hO dX5_push_37 rfl ?_
        refine gi_X5_173 hO dX5_push_38 (ShM.c0 hC) rfl ?_
        refine G_iconst (v := 1) hO dX5_push_41 rfl ?_
        refine G_iadd hO dX5_push_42 ?_
        refine pi_X5_173 hO dX5_push_43 (ShM.c0 hC) rfl ?_
        refine GG.nmw (fun w15 e16 => ?_)
        have h := h w15 e16
        exact G_vret hO dX5_push_46 rfl (QV.i h)
def wp_X5_one (Γ : Gx) (d : Nat) (p1 : Int32) (w : Wd) (Q : Int32 → Wd → Prop) : Prop :=
  ∀ (P_17 : Int32 → Wd → Prop),
  ∀ (P_32 : Int32 → Wd → Prop),
  ∀ (P_93 : Int32 → Wd → Prop),
  ∀ (P_116 : Int32 → Wd → Prop),
  ∀ (P_149 : Int32 → Wd → Prop),
  ∀ (P_172 : Int32 → Wd → Prop),
  (∀ (s0 : Int32) (w : Wd), (((w 0 16) = (48 : Int32) → P_32 s0 w) ∧ (¬ (w 0 16) = (48 : Int32) → ((s0 = (-1 : Int32) → ((p1 = 0 → P_93 (0 : Int32) w) ∧ (¬ p1 = 0 → ((¬ (w 0 16) = (119 : Int32) → P_93 (0 : Int32) w) ∧ ((w 0 16) = (119 : Int32) → ((¬ (w 0 18) = (10631 : Int32) → P_93 (0 : Int32) w) ∧ ((w 0 18) = (10631 : Int32) → P_93 (1 : Int32) w))))))) ∧ (¬ s0 = (-1 : Int32) → P_32 s0 w)))) → P_17 s0 w) →
  (∀ (l2 : Int32) (w : Wd), ((¬ l2 = (-1 : Int32) → CV Γ d M_X5_codes [.ref (gad Γ 0), .int l2] w (fun w11 => CV Γ d M_X5_lays [.ref (gad Γ 0), .int (7 : Int32)] w11 (fun w13 => (∀ w14 : Wd, w14 = wset w13 0 23 (1 : Int32) → Q (1 : Int32) w14)))) ∧ (l2 = (-1 : Int32) → CV Γ d M_X5_codes [.ref (gad Γ 0), .int ((15 : Int32) + (w 0 17))] w (fun w17 => CV Γ d M_X5_lays [.ref (gad Γ 0), .int (7 : Int32)] w17 (fun w19 => (∀ w20 : Wd, w20 = wset w19 0 23 (1 : Int32) → Q (1 : Int32) w20))))) → P_32 l2 w) →
  (∀ (s0 : Int32) (w : Wd), ((¬ s0 = 0 → P_116 s0 w) ∧ (s0 = 0 → (((w 0 16) = (45 : Int32) → P_116 s0 w) ∧ (¬ (w 0 16) = (45 : Int32) → ((¬ (w 0 16) = (40 : Int32) → Q (0 : Int32) w) ∧ ((w 0 16) = (40 : Int32) → P_116 s0 w)))))) → P_93 s0 w) →
  (∀ (l3 : Int32) (w : Wd), ((¬ (w 0 21) = (5 : Int32) → ((¬ (w 0 16) = (40 : Int32) → ((l3 = 0 → P_172 (14 : Int32) w) ∧ (¬ l3 = 0 → P_172 (13 : Int32) w))) ∧ ((w 0 16) = (40 : Int32) → (((w 0 22) = 0 → P_149 (-1 : Int32) w) ∧ (¬ (w 0 22) = 0 → P_149 (-2 : Int32) w))))) ∧ ((w 0 21) = (5 : Int32) → Q (0 : Int32) w)) → P_116 l3 w) →
  (∀ (s0 : Int32) (w : Wd), CV Γ d M_X5_push [.ref (gad Γ 0), .int s0] w (fun w30 => (∀ w31 : Wd, w31 = wset w30 0 22 (0 : Int32) → (((w31 0 16) = (45 : Int32) → (∀ w34 : Wd, w34 = wset w31 0 24 (0 : Int32) → Q (1 : Int32) w34)) ∧ (¬ (w31 0 16) = (45 : Int32) → (∀ w36 : Wd, w36 = wset w31 0 24 (1 : Int32) → Q (1 : Int32) w36))))) → P_149 s0 w) →
  (∀ (s0 : Int32) (w : Wd), CV Γ d M_X5_push [.ref (gad Γ 0), .int s0] w (fun w39 => (((w39 0 16) = (45 : Int32) → (∀ w41 : Wd, w41 = wset w39 0 24 (0 : Int32) → Q (1 : Int32) w41)) ∧ (¬ (w39 0 16) = (45 : Int32) → (∀ w43 : Wd, w43 = wset w39 0 24 (1 : Int32) → Q (1 : Int32) w43)))) → P_172 s0 w) →
  ((¬ (w 0 16) = (119 : Int32) → P_17 (-1 : Int32) w) ∧ ((w 0 16) = (119 : Int32) → CI Γ d M_X5_named [.ref (gad Γ 0)] w (fun r2 w3 => P_17 r2 w3)))
set_option maxRecDepth 20000 in
theorem con_X5_one {Γ : Gx} {d : Nat} (hG : GM Γ) {p1 : Int32}  {w : Wd} {Q : Int32 → Wd → Prop} (h : wp_X5_one Γ d p1 w Q) : CI Γ (d + 1) M_X5_one [.ref (gad Γ 0), .int p1] w Q := by
  have hC := hG.2
  refine Con.of RX5 cX5_one 4 (some .boolean) [some (.ref (gad Γ 0)), some (.int p1), none, none] rfl rfl (by decide +kernel) hG.1 (catR (catI cat0)) (Nat.le_of_ble_eq_true rfl) rfl ?_
  intro X hO
  have h := h
    (fun (s0 : Int32) (w : Wd) => GG Γ X (d + 1) 4 (QI Q) 17 [some (.ref (gad Γ 0)), some (.int p1), none, none] [.int s0] w)
    (fun (l2 : Int32) (w : Wd) => GG Γ X (d + 1) 4 (QI Q) 32 [some (.ref (gad Γ 0)), none, some (.int l2), none] [] w)
    (fun (s0 : Int32) (w : Wd) => GG Γ X (d + 1) 4 (QI Q) 93 [some (.ref (gad Γ 0)), none, none, none] [.int s0] w)
    (fun (l3 : Int32) (w : Wd) => GG Γ X (d + 1) 4 (QI Q) 116 [some (.ref (gad Γ 0)), none, none, some (.int l3)] [] w)
    (fun (s0 : Int32) (w : Wd) => GG Γ X (d + 1) 4 (QI Q) 149 [some (.ref (gad Γ 0)), none, none, none] [.int s0, .ref (gad Γ 0)] w)
    (fun (s0 : Int32) (w : Wd) => GG Γ X (d + 1) 4 (QI Q) 172 [some (.ref (gad Γ 0)), none, none, none] [.int s0, .ref (gad Γ 0)] w)
    (by
        intro s0 w h
        refine G_istore_n (lv2 := [some (.ref (gad Γ 0)), some (.int p1), some (.int s0), none]) hO dX5_one_17 rfl (by decide) rfl rfl ?_
        refine G_aload_n hO dX5_one_18 rfl rfl ?_
        refine gi_X5_138 hO dX5_one_19 (ShM.c0 hC) rfl ?_
        refine G_bipush (v := 48) hO dX5_one_22 rfl ?_
        refine G_icmp_eq (tgt := 32) hO dX5_one_24 (by decide) (fun c4 => ?_) (fun c4 => ?_)
        · have h := h.1 c4
          exact GG.sub (lv2 := [some (.ref (gad Γ 0)), none, some (.int s0), none]) ⟨rfl, ⟨rfl, trivial⟩⟩ h
        · have h := h.2 c4
          refine G_iload_n hO dX5_one_27 rfl rfl ?_
          refine G_iconst (v := -1) hO dX5_one_28 rfl ?_
          refine G_icmp_eq (tgt := 65) hO dX5_one_29 (by decide) (fun c5 => ?_) (fun c5 => ?_)
          · have h := h.1 c5
            refine G_iload_n hO dX5_one_65 rfl rfl ?_
            refine G_if_eq (tgt := 92) hO dX5_one_66 (by decide) (fun c6 => ?_) (fun c6 => ?_)
            · have h := h.1 c6
              refine G_iconst (v := 0) hO dX5_one_92 rfl ?_
              exact GG.sub (lv2 := [some (.ref (gad Γ 0)), none, none, none]) ⟨rfl, trivial⟩ h
            · have h := h.2 c6
              refine G_aload_n hO dX5_one_69 rfl rfl ?_
              refine gi_X5_138 hO dX5_one_70 (ShM.c0 hC) rfl ?_
              refine G_bipush (v := 119) hO dX5_one_73 rfl ?_
              refine G_icmp_ne (tgt := 92) hO dX5_one_75 (by decide) (fun c7 => ?_) (fun c7 => ?_)
              · have h := h.1 c7
                refine G_iconst (v := 0) hO dX5_one_92 rfl ?_
                exact GG.sub (lv2 := [some (.ref (gad Γ 0)), none, none, none]) ⟨rfl, trivial⟩ h
              · have h := h.2 c7
                refine G_aload_n hO dX5_one_78 rfl rfl ?_
                refine gi_X5_129 hO dX5_one_79 (ShM.c0 hC) rfl ?_
                refine G_sipush (v := 10631) hO dX5_one_82 rfl ?_
                refine G_icmp_ne (tgt := 92) hO dX5_one_85 (by decide) (fun c8 => ?_) (fun c8 => ?_)
                · have h := h.1 c8
                  refine G_iconst (v := 0) hO dX5_one_92 rfl ?_
                  exact GG.sub (lv2 := [some (.ref (gad Γ 0)), none, none, none]) ⟨rfl, trivial⟩ h
                · have h := h.2 c8
                  refine G_iconst (v := 1) hO dX5_one_88 rfl ?_
                  refine G_goto (tgt := 93) hO dX5_one_89 (by decide) ?_
                  exact GG.sub (lv2 := [some (.ref (gad Γ 0)), none, none, none]) ⟨rfl, trivial⟩ h
          · have h := h.2 c5
            exact GG.sub (lv2 := [some (.ref (gad Γ 0)), none, some (.int s0), none]) ⟨rfl, ⟨rfl, trivial⟩⟩ h)
    (by
        intro l2 w h
        refine G_aload_n hO dX5_one_32 rfl rfl ?_
        refine G_iload_n hO dX5_one_33 rfl rfl ?_
        refine G_iconst (v := -1) hO dX5_one_34 rfl ?_
        refine G_icmp_ne (tgt := 48) hO dX5_one_35 (by decide) (fun c9 => ?_) (fun c9 => ?_)
        · have h := h.1 c9
          refine G_iload_n hO dX5_one_48 rfl rfl ?_
          refine G_callVv hO dX5_one_49 h cl_X5_72 (ShM.c0 hC) rfl rfl (Nat.le_of_ble_eq_true rfl) (fun w11 h => ?_) rfl
          refine G_aload_n hO dX5_one_52 rfl rfl ?_
          refine G_bipush (v := 7) hO dX5_one_53 rfl ?_
          refine G_callVv hO dX5_one_55 h cl_X5_176 (ShM.c0 hC) rfl rfl (Nat.le_of_ble_eq_true rfl) (fun w13 h => ?_) rfl
          refine G_aload_n hO dX5_one_58 rfl rfl ?_
          refine G_iconst (v := 1) hO dX5_one_59 rfl ?_
          refine pi_X5_179 hO dX5_one_60 (ShM.c0 hC) rfl (Or.inr rfl) ?_
          refine GG.nmw (fun w14 e15 => ?_)
          have h := h w14 e15
          refine G_iconst (v := 1) hO dX5_one_63 rfl ?_
          exact G_iret hO dX5_one_64 rfl rfl (QI.i h)
        · have h := h.2 c9
          refine G_bipush (v := 15) hO dX5_one_38 rfl ?_
          refine G_aload_n hO dX5_one_40 rfl rfl ?_
          refine gi_X5_155 hO dX5_one_41 (ShM.c0 hC) rfl ?_
          refine G_iadd hO dX5_one_44 ?_
          refine G_goto (tgt := 49) hO dX5_one_45 (by decide) ?_
          refine G_callVv hO dX5_one_49 h cl_X5_72 (ShM.c0 hC) rfl rfl (Nat.le_of_ble_eq_true rfl) (fun w17 h => ?_) rfl
          refine G_aload_n hO dX5_one_52 rfl rfl ?_
          refine G_bipush (v := 7) hO dX5_one_53 rfl ?_
          refine G_callVv hO dX5_one_55 h cl_X5_176 (ShM.c0 hC) rfl rfl (Nat.le_of_ble_eq_true rfl) (fun w19 h => ?_) rfl
          refine G_aload_n hO dX5_one_58 rfl rfl ?_
          refine G_iconst (v := 1) hO dX5_one_59 rfl ?_
          refine pi_X5_179 hO dX5_one_60 (ShM.c0 hC) rfl (Or.inr rfl) ?_
          refine GG.nmw (fun w20 e21 => ?_)
          have h := h w20 e21
          refine G_iconst (v := 1) hO dX5_one_63 rfl ?_
          refine GG.atpc (pc2 := 64) rfl ?_
          exact G_iret hO dX5_one_64 rfl rfl (QI.i h))
    (by
        intro s0 w h
        refine G_istore_n (lv2 := [some (.ref (gad Γ 0)), none, none, some (.int s0)]) hO dX5_one_93 rfl (by decide) rfl rfl ?_
        refine G_iload_n hO dX5_one_94 rfl rfl ?_
        refine G_if_ne (tgt := 116) hO dX5_one_95 (by decide) (fun c22 => ?_) (fun c22 => ?_)
        · have h := h.1 c22
          exact GG.sub (lv2 := [some (.ref (gad Γ 0)), none, none, some (.int s0)]) ⟨rfl, ⟨rfl, trivial⟩⟩ h
        · have h := h.2 c22
          refine G_aload_n hO dX5_one_98 rfl rfl ?_
          refine gi_X5_138 hO dX5_one_99 (ShM.c0 hC) rfl ?_
          refine G_bipush (v := 45) hO dX5_one_102 rfl ?_
          refine G_icmp_eq (tgt := 116) hO dX5_one_104 (by decide) (fun c23 => ?_) (fun c23 => ?_)
          · have h := h.1 c23
            exact GG.sub (lv2 := [some (.ref (gad Γ 0)), none, none, some (.int s0)]) ⟨rfl, ⟨rfl, trivial⟩⟩ h
          · have h := h.2 c23
            refine G_aload_n hO dX5_one_107 rfl rfl ?_
            refine gi_X5_138 hO dX5_one_108 (ShM.c0 hC) rfl ?_
            refine G_bipush (v := 40) hO dX5_one_111 rfl ?_
            refine G_icmp_ne (tgt := 124) hO dX5_one_113 (by decide) (fun c24 => ?_) (fun c24 => ?_)
            · have h := h.1 c24
              refine G_iconst (v := 0) hO dX5_one_124 rfl ?_
              exact G_iret hO dX5_one_125 rfl rfl (QI.i h)
            · have h := h.2 c24
              exact GG.sub (lv2 := [some (.ref (gad Γ 0)), none, none, some (.int s0)]) ⟨rfl, ⟨rfl, trivial⟩⟩ h)
    (by
        intro l3 w h
        refine G_aload_n hO dX5_one_116 rfl rfl ?_
        refine gi_X5_173 hO dX5_one_117 (ShM.c0 hC) rfl ?_
        refine G_iconst (v := 5) hO dX5_one_120 rfl ?_
        refine G_icmp_ne (tgt := 126) hO dX5_one_121 (by decide) (fun c25 => ?_) (fun c25 => ?_)
        · have h := h.1 c25
          refine G_aload_n hO dX5_one_126 rfl rfl ?_
          refine gi_X5_138 hO dX5_one_127 (ShM.c0 hC) rfl ?_
          refine G_bipush (v := 40) hO dX5_one_130 rfl ?_
          refine G_icmp_ne (tgt := 160) hO dX5_one_132 (by decide) (fun c26 => ?_) (fun c26 => ?_)
          · have h := h.1 c26
            refine G_aload_n hO dX5_one_160 rfl rfl ?_
            refine G_iload_n hO dX5_one_161 rfl rfl ?_
            refine G_if_eq (tgt := 170) hO dX5_one_162 (by decide) (fun c27 => ?_) (fun c27 => ?_)
            · have h := h.1 c27
              refine G_bipush (v := 14) hO dX5_one_170 rfl ?_
              exact GG.sub (lv2 := [some (.ref (gad Γ 0)), none, none, none]) ⟨rfl, trivial⟩ h
            · have h := h.2 c27
              refine G_bipush (v := 13) hO dX5_one_165 rfl ?_
              refine G_goto (tgt := 172) hO dX5_one_167 (by decide) ?_
              exact GG.sub (lv2 := [some (.ref (gad Γ 0)), none, none, none]) ⟨rfl, trivial⟩ h
          · have h := h.2 c26
            refine G_aload_n hO dX5_one_135 rfl rfl ?_
            refine G_aload_n hO dX5_one_136 rfl rfl ?_
            refine gi_X5_183 hO dX5_one_137 (ShM.c0 hC) rfl ?_
            refine G_if_eq (tgt := 148) hO dX5_one_140 (by decide) (fun c28 => ?_) (fun c28 => ?_)
            · have h := h.1 c28
              refine G_iconst (v := -1) hO dX5_one_148 rfl ?_
              exact GG.sub (lv2 := [some (.ref (gad Γ 0)), none, none, none]) ⟨rfl, trivial⟩ h
            · have h := h.2 c28
              refine G_bipush (v := -2) hO dX5_one_143 rfl ?_
              refine G_goto (tgt := 149) hO dX5_one_145 (by decide) ?_
              exact GG.sub (lv2 := [some (.ref (gad Γ 0)), none, none, none]) ⟨rfl, trivial⟩ h
        · have h := h.2 c25
          refine G_iconst (v := 0) hO dX5_one_124 rfl ?_
          exact G_iret hO dX5_one_125 rfl rfl (QI.i h))
    (by
        intro s0 w h
        refine G_callVv hO dX5_one_149 h cl_X5_186 (ShM.c0 hC) rfl rfl (Nat.le_of_ble_eq_true rfl) (fun w30 h => ?_) rfl
        refine G_aload_n hO dX5_one_152 rfl rfl ?_
        refine G_iconst (v := 0) hO dX5_one_153 rfl ?_
        refine pi_X5_183 hO dX5_one_154 (ShM.c0 hC) rfl (Or.inl rfl) ?_
        refine GG.nmw (fun w31 e32 => ?_)
        have h := h w31 e32
        refine G_goto (tgt := 175) hO dX5_one_157 (by decide) ?_
        refine G_aload_n hO dX5_one_175 rfl rfl ?_
        refine G_aload_n hO dX5_one_176 rfl rfl ?_
        refine gi_X5_138 hO dX5_one_177 (ShM.c0 hC) rfl ?_
        refine G_bipush (v := 45) hO dX5_one_180 rfl ?_
        refine G_icmp_eq (tgt := 189) hO dX5_one_182 (by decide) (fun c33 => ?_) (fun c33 => ?_)
        · have h := h.1 c33
          refine G_iconst (v := 0) hO dX5_one_189 rfl ?_
          refine pi_X5_189 hO dX5_one_190 (ShM.c0 hC) rfl (Or.inl rfl) ?_
          refine GG.nmw (fun w34 e35 => ?_)
          have h := h w34 e35
          refine G_iconst (v := 1) hO dX5_one_193 rfl ?_
          exact G_iret hO dX5_one_194 rfl rfl (QI.i h)
        · have h := h.2 c33
          refine G_iconst (v := 1) hO dX5_one_185 rfl ?_
          refine G_goto (tgt := 190) hO dX5_one_186 (by decide) ?_
          refine pi_X5_189 hO dX5_one_190 (ShM.c0 hC) rfl (Or.inr rfl) ?_
          refine GG.nmw (fun w36 e37 => ?_)
          have h := h w36 e37
          refine G_iconst (v := 1) hO dX5_one_193 rfl ?_
          exact G_iret hO dX5_one_194 rfl rfl (QI.i h))
    (by
        intro s0 w h
        refine G_callVv hO dX5_one_172 h cl_X5_186 (ShM.c0 hC) rfl rfl (Nat.le_of_ble_eq_true rfl) (fun w39 h => ?_) rfl
        refine G_aload_n hO dX5_one_175 rfl rfl ?_
        refine G_aload_n hO dX5_one_176 rfl rfl ?_
        refine gi_X5_138 hO dX5_one_177 (ShM.c0 hC) rfl ?_
        refine G_bipush (v := 45) hO dX5_one_180 rfl ?_
        refine G_icmp_eq (tgt := 189) hO dX5_one_182 (by decide) (fun c40 => ?_) (fun c40 => ?_)
        · have h := h.1 c40
          refine G_iconst (v := 0) hO dX5_one_189 rfl ?_
          refine pi_X5_189 hO dX5_one_190 (ShM.c0 hC) rfl (Or.inl rfl) ?_
          refine GG.nmw (fun w41 e42 => ?_)
          have h := h w41 e42
          refine G_iconst (v := 1) hO dX5_one_193 rfl ?_
          exact G_iret hO dX5_one_194 rfl rfl (QI.i h)
        · have h := h.2 c40
          refine G_iconst (v := 1) hO dX5_one_185 rfl ?_
          refine G_goto (tgt := 190) hO dX5_one_186 (by decide) ?_
          refine pi_X5_189 hO dX5_one_190 (ShM.c0 hC) rfl (Or.inr rfl) ?_
          refine GG.nmw (fun w43 e44 => ?_)
          have h := h w43 e44
          refine G_iconst (v := 1) hO dX5_one_193 rfl ?_
          exact G_iret hO dX5_one_194 rfl rfl (QI.i h))
  refine G_aload_n hO dX5_one_0 rfl rfl ?_
  refine gi_X5_138 hO dX5_one_1 (ShM.c0 hC) rfl ?_
  refine G_bipush (v := 119) hO dX5_one_4 rfl ?_
  refine G_icmp_ne (tgt := 16) hO dX5_one_6 (by decide) (fun c1 => ?_) (fun c1 => ?_)
  · have h := h.1 c1
    refine G_iconst (v := -1) hO dX5_one_16 rfl ?_
    exact GG.sub (lv2 := [some (.ref (gad Γ 0)), some (.int p1), none, none]) ⟨rfl, ⟨rfl, trivial⟩⟩ h
  · have h := h.2 c1
    refine G_aload_n hO dX5_one_9 rfl rfl ?_
    refine G_callVi hO dX5_one_10 h cl_X5_144 (ShM.c0 hC) rfl rfl (Nat.le_of_ble_eq_true rfl) (fun r2 w3 h => ?_) rfl
    refine G_goto (tgt := 17) hO dX5_one_13 (by decide) ?_
    exact GG.sub (lv2 := [some (.ref (gad Γ 0)), some (.int p1), none, none]) ⟨rfl, ⟨rfl, trivial⟩⟩ h
def wp_X5_signed (Γ : Gx) (d : Nat)  (w : Wd) (Q : Int32 → Wd → Prop) : Prop :=
  ((((w 0 16) = (42 : Int32)) → Q (8 : Int32) w) ∧ (((w 0 16) = (43 : Int32)) → Q (6 : Int32) w) ∧ (((w 0 16) = (45 : Int32)) → Q (7 : Int32) w) ∧ (((w 0 16) = (60 : Int32)) → (((w 0 22) = 0 → Q (9 : Int32) w) ∧ (¬ (w 0 22) = 0 → Q (-1 : Int32) w))) ∧ (((w 0 16) = (61 : Int32)) → (((w 0 22) = 0 → Q (10 : Int32) w) ∧ (¬ (w 0 22) = 0 → Q (-1 : Int32) w))) ∧ (((w 0 16) = (119 : Int32)) → ((¬ (w 0 18) = (1111 : Int32) → ((¬ (w 0 18) = (423 : Int32) → Q (-1 : Int32) w) ∧ ((w 0 18) = (423 : Int32) → Q (12 : Int32) w))) ∧ ((w 0 18) = (1111 : Int32) → Q (11 : Int32) w))) ∧ ((¬ (w 0 16) = (42 : Int32) ∧ ¬ (w 0 16) = (43 : Int32) ∧ ¬ (w 0 16) = (45 : Int32) ∧ ¬ (w 0 16) = (60 : Int32) ∧ ¬ (w 0 16) = (61 : Int32) ∧ ¬ (w 0 16) = (119 : Int32)) → Q (-1 : Int32) w))
set_option maxRecDepth 20000 in
theorem con_X5_signed {Γ : Gx} {d : Nat} (hG : GM Γ)   {w : Wd} {Q : Int32 → Wd → Prop} (h : wp_X5_signed Γ d  w Q) : CI Γ (d + 1) M_X5_signed [.ref (gad Γ 0)] w Q := by
  have hC := hG.2
  refine Con.of RX5 cX5_signed 1 (some .int) [some (.ref (gad Γ 0))] rfl rfl (by decide +kernel) hG.1 (catR cat0) (Nat.le_of_ble_eq_true rfl) rfl ?_
  intro X hO
  refine G_aload_n hO dX5_signed_0 rfl rfl ?_
  refine gi_X5_138 hO dX5_signed_1 (ShM.c0 hC) rfl ?_
  by_cases e42 : (w 0 16) = (42 : Int32)
  · have h := h.1 e42
    refine G_lookIn (tgt := 64) (q := (42, 60)) hO dX5_signed_4 (by decide) (sweq e42 (by decide)) rfl (by decide) ?_
    refine G_bipush (v := 8) hO dX5_signed_64 rfl ?_
    exact G_iret hO dX5_signed_66 rfl rfl (QI.i h)
  · by_cases e43 : (w 0 16) = (43 : Int32)
    · have h := h.2.1 e43
      refine G_lookIn (tgt := 67) (q := (43, 63)) hO dX5_signed_4 (by decide) (sweq e43 (by decide)) rfl (by decide) ?_
      refine G_bipush (v := 6) hO dX5_signed_67 rfl ?_
      exact G_iret hO dX5_signed_69 rfl rfl (QI.i h)
    · by_cases e45 : (w 0 16) = (45 : Int32)
      · have h := h.2.2.1 e45
        refine G_lookIn (tgt := 70) (q := (45, 66)) hO dX5_signed_4 (by decide) (sweq e45 (by decide)) rfl (by decide) ?_
        refine G_bipush (v := 7) hO dX5_signed_70 rfl ?_
        exact G_iret hO dX5_signed_72 rfl rfl (QI.i h)
      · by_cases e60 : (w 0 16) = (60 : Int32)
        · have h := h.2.2.2.1 e60
          refine G_lookIn (tgt := 73) (q := (60, 69)) hO dX5_signed_4 (by decide) (sweq e60 (by decide)) rfl (by decide) ?_
          refine G_aload_n hO dX5_signed_73 rfl rfl ?_
          refine gi_X5_183 hO dX5_signed_74 (ShM.c0 hC) rfl ?_
          refine G_if_eq (tgt := 84) hO dX5_signed_77 (by decide) (fun c1 => ?_) (fun c1 => ?_)
          · have h := h.1 c1
            refine G_bipush (v := 9) hO dX5_signed_84 rfl ?_
            exact G_iret hO dX5_signed_86 rfl rfl (QI.i h)
          · have h := h.2 c1
            refine G_iconst (v := -1) hO dX5_signed_80 rfl ?_
            refine G_goto (tgt := 86) hO dX5_signed_81 (by decide) ?_
            exact G_iret hO dX5_signed_86 rfl rfl (QI.i h)
        · by_cases e61 : (w 0 16) = (61 : Int32)
          · have h := h.2.2.2.2.1 e61
            refine G_lookIn (tgt := 87) (q := (61, 83)) hO dX5_signed_4 (by decide) (sweq e61 (by decide)) rfl (by decide) ?_
            refine G_aload_n hO dX5_signed_87 rfl rfl ?_
            refine gi_X5_183 hO dX5_signed_88 (ShM.c0 hC) rfl ?_
            refine G_if_eq (tgt := 98) hO dX5_signed_91 (by decide) (fun c2 => ?_) (fun c2 => ?_)
            · have h := h.1 c2
              refine G_bipush (v := 10) hO dX5_signed_98 rfl ?_
              exact G_iret hO dX5_signed_100 rfl rfl (QI.i h)
            · have h := h.2 c2
              refine G_iconst (v := -1) hO dX5_signed_94 rfl ?_
              refine G_goto (tgt := 100) hO dX5_signed_95 (by decide) ?_
              exact G_iret hO dX5_signed_100 rfl rfl (QI.i h)
          · by_cases e119 : (w 0 16) = (119 : Int32)
            · have h := h.2.2.2.2.2.1 e119
              refine G_lookIn (tgt := 101) (q := (119, 97)) hO dX5_signed_4 (by decide) (sweq e119 (by decide)) rfl (by decide) ?_
              refine G_aload_n hO dX5_signed_101 rfl rfl ?_
              refine gi_X5_129 hO dX5_signed_102 (ShM.c0 hC) rfl ?_
              refine G_sipush (v := 1111) hO dX5_signed_105 rfl ?_
              refine G_icmp_ne (tgt := 116) hO dX5_signed_108 (by decide) (fun c3 => ?_) (fun c3 => ?_)
              · have h := h.1 c3
                refine G_aload_n hO dX5_signed_116 rfl rfl ?_
                refine gi_X5_129 hO dX5_signed_117 (ShM.c0 hC) rfl ?_
                refine G_sipush (v := 423) hO dX5_signed_120 rfl ?_
                refine G_icmp_ne (tgt := 131) hO dX5_signed_123 (by decide) (fun c4 => ?_) (fun c4 => ?_)
                · have h := h.1 c4
                  refine G_iconst (v := -1) hO dX5_signed_131 rfl ?_
                  exact G_iret hO dX5_signed_132 rfl rfl (QI.i h)
                · have h := h.2 c4
                  refine G_bipush (v := 12) hO dX5_signed_126 rfl ?_
                  refine G_goto (tgt := 132) hO dX5_signed_128 (by decide) ?_
                  exact G_iret hO dX5_signed_132 rfl rfl (QI.i h)
              · have h := h.2 c3
                refine G_bipush (v := 11) hO dX5_signed_111 rfl ?_
                refine G_goto (tgt := 132) hO dX5_signed_113 (by decide) ?_
                exact G_iret hO dX5_signed_132 rfl rfl (QI.i h)
            · have h := h.2.2.2.2.2.2 ⟨e42, e43, e45, e60, e61, e119⟩
              refine G_lookOut (tgt := 133) hO dX5_signed_4 (by decide) (by decide) (fun q hq => ?_) ?_
              · simp only [List.mem_cons, List.not_mem_nil, or_false] at hq
                rcases hq with rfl | rfl | rfl | rfl | rfl | rfl
                · exact swne e42 (by decide)
                · exact swne e43 (by decide)
                · exact swne e45 (by decide)
                · exact swne e60 (by decide)
                · exact swne e61 (by decide)
                · exact swne e119 (by decide)
              · refine G_iconst (v := -1) hO dX5_signed_133 rfl ?_
                exact G_iret hO dX5_signed_134 rfl rfl (QI.i h)
def wp_X5_closes (Γ : Gx) (d : Nat)  (w : Wd) (Q : Int32 → Wd → Prop) : Prop :=
  CV Γ d M_X5_lays [.ref (gad Γ 0), .int (1 : Int32)] w (fun w2 => ((¬ (w2 0 20) = 0 → (∀ w4 : Wd, w4 = wset w2 0 20 ((w2 0 20) - (1 : Int32)) → (vp_in (w4 0 20) 200 ∧ ((¬ (w4 9 ((w4 0 20)).toNatClampNeg) = (-2 : Int32) → (∀ w8 : Wd, w8 = wset w4 0 22 (0 : Int32) → (∀ w10 : Wd, w10 = wset w8 0 21 ((w8 0 21) - (1 : Int32)) → CV Γ d M_X5_lays [.ref (gad Γ 0), .int (7 : Int32)] w10 (fun w13 => Q (1 : Int32) w13)))) ∧ ((w4 9 ((w4 0 20)).toNatClampNeg) = (-2 : Int32) → (∀ w14 : Wd, w14 = wset w4 0 22 (1 : Int32) → (∀ w16 : Wd, w16 = wset w14 0 21 ((w14 0 21) - (1 : Int32)) → CV Γ d M_X5_lays [.ref (gad Γ 0), .int (7 : Int32)] w16 (fun w19 => Q (1 : Int32) w19)))))))) ∧ ((w2 0 20) = 0 → Q (0 : Int32) w2)))
set_option maxRecDepth 20000 in
theorem con_X5_closes {Γ : Gx} {d : Nat} (hG : GM Γ)   {w : Wd} {Q : Int32 → Wd → Prop} (h : wp_X5_closes Γ d  w Q) : CI Γ (d + 1) M_X5_closes [.ref (gad Γ 0)] w Q := by
  have hC := hG.2
  refine Con.of RX5 cX5_closes 1 (some .boolean) [some (.ref (gad Γ 0))] rfl rfl (by decide +kernel) hG.1 (catR cat0) (Nat.le_of_ble_eq_true rfl) rfl ?_
  intro X hO
  refine G_aload_n hO dX5_closes_0 rfl rfl ?_
  refine G_iconst (v := 1) hO dX5_closes_1 rfl ?_
  refine G_callVv hO dX5_closes_2 h cl_X5_176 (ShM.c0 hC) rfl rfl (Nat.le_of_ble_eq_true rfl) (fun w2 h => ?_) rfl
  refine G_aload_n hO dX5_closes_5 rfl rfl ?_
  refine gi_X5_167 hO dX5_closes_6 (ShM.c0 hC) rfl ?_
  refine G_if_ne (tgt := 14) hO dX5_closes_9 (by decide) (fun c3 => ?_) (fun c3 => ?_)
  · have h := h.1 c3
    refine G_aload_n hO dX5_closes_14 rfl rfl ?_
    refine G_dup hO dX5_closes_15 rfl ?_
    refine gi_X5_167 hO dX5_closes_16 (ShM.c0 hC) rfl ?_
    refine G_iconst (v := 1) hO dX5_closes_19 rfl ?_
    refine G_isub hO dX5_closes_20 ?_
    refine pi_X5_167 hO dX5_closes_21 (ShM.c0 hC) rfl ?_
    refine GG.nmw (fun w4 e5 => ?_)
    have h := h w4 e5
    refine G_aload_n hO dX5_closes_24 rfl rfl ?_
    refine G_aload_n hO dX5_closes_25 rfl rfl ?_
    refine gr_X5_35 (c := 9) hO dX5_closes_26 (ShM.c0 hC) rfl ?_
    refine G_aload_n hO dX5_closes_29 rfl rfl ?_
    refine gi_X5_167 hO dX5_closes_30 (ShM.c0 hC) rfl ?_
    obtain ⟨c6, h⟩ := h
    refine G_iaload hO dX5_closes_33 (ShM.c9 hC) c6 ?_
    refine GG.atpc (pc2 := 34) rfl ?_
    refine G_bipush (v := -2) hO dX5_closes_34 rfl ?_
    refine G_icmp_ne (tgt := 43) hO dX5_closes_36 (by decide) (fun c7 => ?_) (fun c7 => ?_)
    · have h := h.1 c7
      refine G_iconst (v := 0) hO dX5_closes_43 rfl ?_
      refine pi_X5_183 hO dX5_closes_44 (ShM.c0 hC) rfl (Or.inl rfl) ?_
      refine GG.nmw (fun w8 e9 => ?_)
      have h := h w8 e9
      refine G_aload_n hO dX5_closes_47 rfl rfl ?_
      refine G_dup hO dX5_closes_48 rfl ?_
      refine gi_X5_173 hO dX5_closes_49 (ShM.c0 hC) rfl ?_
      refine G_iconst (v := 1) hO dX5_closes_52 rfl ?_
      refine G_isub hO dX5_closes_53 ?_
      refine pi_X5_173 hO dX5_closes_54 (ShM.c0 hC) rfl ?_
      refine GG.nmw (fun w10 e11 => ?_)
      have h := h w10 e11
      refine G_aload_n hO dX5_closes_57 rfl rfl ?_
      refine G_bipush (v := 7) hO dX5_closes_58 rfl ?_
      refine G_callVv hO dX5_closes_60 h cl_X5_176 (ShM.c0 hC) rfl rfl (Nat.le_of_ble_eq_true rfl) (fun w13 h => ?_) rfl
      refine G_iconst (v := 1) hO dX5_closes_63 rfl ?_
      refine GG.atpc (pc2 := 64) rfl ?_
      exact G_iret hO dX5_closes_64 rfl rfl (QI.i h)
    · have h := h.2 c7
      refine G_iconst (v := 1) hO dX5_closes_39 rfl ?_
      refine G_goto (tgt := 44) hO dX5_closes_40 (by decide) ?_
      refine pi_X5_183 hO dX5_closes_44 (ShM.c0 hC) rfl (Or.inr rfl) ?_
      refine GG.nmw (fun w14 e15 => ?_)
      have h := h w14 e15
      refine G_aload_n hO dX5_closes_47 rfl rfl ?_
      refine G_dup hO dX5_closes_48 rfl ?_
      refine gi_X5_173 hO dX5_closes_49 (ShM.c0 hC) rfl ?_
      refine G_iconst (v := 1) hO dX5_closes_52 rfl ?_
      refine G_isub hO dX5_closes_53 ?_
      refine pi_X5_173 hO dX5_closes_54 (ShM.c0 hC) rfl ?_
      refine GG.nmw (fun w16 e17 => ?_)
      have h := h w16 e17
      refine G_aload_n hO dX5_closes_57 rfl rfl ?_
      refine G_bipush (v := 7) hO dX5_closes_58 rfl ?_
      refine G_callVv hO dX5_closes_60 h cl_X5_176 (ShM.c0 hC) rfl rfl (Nat.le_of_ble_eq_true rfl) (fun w19 h => ?_) rfl
      refine G_iconst (v := 1) hO dX5_closes_63 rfl ?_
      refine GG.atpc (pc2 := 64) rfl ?_
      exact G_iret hO dX5_closes_64 rfl rfl (QI.i h)
  · have h := h.2 c3
    refine G_iconst (v := 0) hO dX5_closes_12 rfl ?_
    exact G_iret hO dX5_closes_13 rfl rfl (QI.i h)
def wp_X5_goesOn (Γ : Gx) (d : Nat)  (w : Wd) (Q : Int32 → Wd → Prop) : Prop :=
  ∀ (P_74 : Int32 → Int32 → Wd → Prop),
  (∀ (l1 : Int32) (s0 : Int32) (w : Wd), (isZ s0 ∧ (∀ w22 : Wd, w22 = wset w 0 24 s0 → (((w22 0 24) = 0 → CI Γ d M_X5_rank [.int l1] w22 (fun r25 w26 => ((¬ r25 = (4 : Int32) → Q (1 : Int32) w26) ∧ (r25 = (4 : Int32) → (∀ w28 : Wd, w28 = wset w26 0 22 (1 : Int32) → Q (1 : Int32) w28))))) ∧ (¬ (w22 0 24) = 0 → (∀ w30 : Wd, w30 = wset w22 0 22 (0 : Int32) → Q (1 : Int32) w30))))) → P_74 l1 s0 w) →
  ((¬ (w 0 23) = 0 → ((¬ (w 0 16) = (41 : Int32) → CI Γ d M_X5_signed [.ref (gad Γ 0)] w (fun r3 w4 => ((¬ r3 = (-1 : Int32) → CI Γ d M_X5_rank [.int r3] w4 (fun r6 w7 => CV Γ d M_X5_lays [.ref (gad Γ 0), .int r6] w7 (fun w9 => CV Γ d M_X5_push [.ref (gad Γ 0), .int r3] w9 (fun w11 => (∀ w12 : Wd, w12 = wset w11 0 23 (0 : Int32) → CI Γ d M_X5_rank [.int r3] w12 (fun r14 w15 => (((3 : Int32) ≤ r14 → P_74 r3 (0 : Int32) w15) ∧ (¬ (3 : Int32) ≤ r14 → P_74 r3 (1 : Int32) w15)))))))) ∧ (r3 = (-1 : Int32) → Q (0 : Int32) w4)))) ∧ ((w 0 16) = (41 : Int32) → CI Γ d M_X5_closes [.ref (gad Γ 0)] w (fun r17 w18 => (isZ r17 ∧ Q r17 w18))))) ∧ ((w 0 23) = 0 → CI Γ d M_X5_one [.ref (gad Γ 0), .int (w 0 24)] w (fun r19 w20 => (isZ r19 ∧ Q r19 w20))))
set_option maxRecDepth 20000 in
theorem con_X5_goesOn {Γ : Gx} {d : Nat} (hG : GM Γ)   {w : Wd} {Q : Int32 → Wd → Prop} (h : wp_X5_goesOn Γ d  w Q) : CI Γ (d + 1) M_X5_goesOn [.ref (gad Γ 0)] w Q := by
  have hC := hG.2
  refine Con.of RX5 cX5_goesOn 2 (some .boolean) [some (.ref (gad Γ 0)), none] rfl rfl (by decide +kernel) hG.1 (catR cat0) (Nat.le_of_ble_eq_true rfl) rfl ?_
  intro X hO
  have h := h
    (fun (l1 : Int32) (s0 : Int32) (w : Wd) => GG Γ X (d + 1) 2 (QI Q) 74 [some (.ref (gad Γ 0)), some (.int l1)] [.int s0, .ref (gad Γ 0)] w)
    (by
        intro l1 s0 w h
        obtain ⟨c21, h⟩ := h
        refine pi_X5_189 hO dX5_goesOn_74 (ShM.c0 hC) rfl c21 ?_
        refine GG.nmw (fun w22 e23 => ?_)
        have h := h w22 e23
        refine G_aload_n hO dX5_goesOn_77 rfl rfl ?_
        refine gi_X5_189 hO dX5_goesOn_78 (ShM.c0 hC) rfl ?_
        refine G_if_eq (tgt := 92) hO dX5_goesOn_81 (by decide) (fun c24 => ?_) (fun c24 => ?_)
        · have h := h.1 c24
          refine G_iload_n hO dX5_goesOn_92 rfl rfl ?_
          refine G_callSi hO dX5_goesOn_93 h cl_X5_170 rfl (Nat.le_of_ble_eq_true rfl) (fun r25 w26 h => ?_) rfl
          refine G_iconst (v := 4) hO dX5_goesOn_96 rfl ?_
          refine G_icmp_ne (tgt := 105) hO dX5_goesOn_97 (by decide) (fun c27 => ?_) (fun c27 => ?_)
          · have h := h.1 c27
            refine G_iconst (v := 1) hO dX5_goesOn_105 rfl ?_
            exact G_iret hO dX5_goesOn_106 rfl rfl (QI.i h)
          · have h := h.2 c27
            refine G_aload_n hO dX5_goesOn_100 rfl rfl ?_
            refine G_iconst (v := 1) hO dX5_goesOn_101 rfl ?_
            refine pi_X5_183 hO dX5_goesOn_102 (ShM.c0 hC) rfl (Or.inr rfl) ?_
            refine GG.nmw (fun w28 e29 => ?_)
            have h := h w28 e29
            refine G_iconst (v := 1) hO dX5_goesOn_105 rfl ?_
            exact G_iret hO dX5_goesOn_106 rfl rfl (QI.i h)
        · have h := h.2 c24
          refine G_aload_n hO dX5_goesOn_84 rfl rfl ?_
          refine G_iconst (v := 0) hO dX5_goesOn_85 rfl ?_
          refine pi_X5_183 hO dX5_goesOn_86 (ShM.c0 hC) rfl (Or.inl rfl) ?_
          refine GG.nmw (fun w30 e31 => ?_)
          have h := h w30 e31
          refine G_goto (tgt := 105) hO dX5_goesOn_89 (by decide) ?_
          refine G_iconst (v := 1) hO dX5_goesOn_105 rfl ?_
          exact G_iret hO dX5_goesOn_106 rfl rfl (QI.i h))
  refine G_aload_n hO dX5_goesOn_0 rfl rfl ?_
  refine gi_X5_179 hO dX5_goesOn_1 (ShM.c0 hC) rfl ?_
  refine G_if_ne (tgt := 16) hO dX5_goesOn_4 (by decide) (fun c1 => ?_) (fun c1 => ?_)
  · have h := h.1 c1
    refine G_aload_n hO dX5_goesOn_16 rfl rfl ?_
    refine gi_X5_138 hO dX5_goesOn_17 (ShM.c0 hC) rfl ?_
    refine G_bipush (v := 41) hO dX5_goesOn_20 rfl ?_
    refine G_icmp_ne (tgt := 30) hO dX5_goesOn_22 (by decide) (fun c2 => ?_) (fun c2 => ?_)
    · have h := h.1 c2
      refine G_aload_n hO dX5_goesOn_30 rfl rfl ?_
      refine G_callVi hO dX5_goesOn_31 h cl_X5_199 (ShM.c0 hC) rfl rfl (Nat.le_of_ble_eq_true rfl) (fun r3 w4 h => ?_) rfl
      refine G_istore_n (lv2 := [some (.ref (gad Γ 0)), some (.int r3)]) hO dX5_goesOn_34 rfl (by decide) rfl rfl ?_
      refine G_iload_n hO dX5_goesOn_35 rfl rfl ?_
      refine G_iconst (v := -1) hO dX5_goesOn_36 rfl ?_
      refine G_icmp_ne (tgt := 42) hO dX5_goesOn_37 (by decide) (fun c5 => ?_) (fun c5 => ?_)
      · have h := h.1 c5
        refine G_aload_n hO dX5_goesOn_42 rfl rfl ?_
        refine G_iload_n hO dX5_goesOn_43 rfl rfl ?_
        refine G_callSi hO dX5_goesOn_44 h cl_X5_170 rfl (Nat.le_of_ble_eq_true rfl) (fun r6 w7 h => ?_) rfl
        refine G_callVv hO dX5_goesOn_47 h cl_X5_176 (ShM.c0 hC) rfl rfl (Nat.le_of_ble_eq_true rfl) (fun w9 h => ?_) rfl
        refine G_aload_n hO dX5_goesOn_50 rfl rfl ?_
        refine G_iload_n hO dX5_goesOn_51 rfl rfl ?_
        refine G_callVv hO dX5_goesOn_52 h cl_X5_186 (ShM.c0 hC) rfl rfl (Nat.le_of_ble_eq_true rfl) (fun w11 h => ?_) rfl
        refine G_aload_n hO dX5_goesOn_55 rfl rfl ?_
        refine G_iconst (v := 0) hO dX5_goesOn_56 rfl ?_
        refine pi_X5_179 hO dX5_goesOn_57 (ShM.c0 hC) rfl (Or.inl rfl) ?_
        refine GG.nmw (fun w12 e13 => ?_)
        have h := h w12 e13
        refine G_aload_n hO dX5_goesOn_60 rfl rfl ?_
        refine G_iload_n hO dX5_goesOn_61 rfl rfl ?_
        refine GG.atpc (pc2 := 62) rfl ?_
        refine G_callSi hO dX5_goesOn_62 h cl_X5_170 rfl (Nat.le_of_ble_eq_true rfl) (fun r14 w15 h => ?_) rfl
        refine G_iconst (v := 3) hO dX5_goesOn_65 rfl ?_
        refine G_icmp_ge (tgt := 73) hO dX5_goesOn_66 (by decide) (fun c16 => ?_) (fun c16 => ?_)
        · have h := h.1 c16
          refine G_iconst (v := 0) hO dX5_goesOn_73 rfl ?_
          exact GG.sub (lv2 := [some (.ref (gad Γ 0)), some (.int r3)]) ⟨rfl, ⟨rfl, trivial⟩⟩ h
        · have h := h.2 c16
          refine G_iconst (v := 1) hO dX5_goesOn_69 rfl ?_
          refine G_goto (tgt := 74) hO dX5_goesOn_70 (by decide) ?_
          exact GG.sub (lv2 := [some (.ref (gad Γ 0)), some (.int r3)]) ⟨rfl, ⟨rfl, trivial⟩⟩ h
      · have h := h.2 c5
        refine G_iconst (v := 0) hO dX5_goesOn_40 rfl ?_
        exact G_iret hO dX5_goesOn_41 rfl rfl (QI.i h)
    · have h := h.2 c2
      refine G_aload_n hO dX5_goesOn_25 rfl rfl ?_
      refine G_callVi hO dX5_goesOn_26 h cl_X5_196 (ShM.c0 hC) rfl rfl (Nat.le_of_ble_eq_true rfl) (fun r17 w18 h => ?_) rfl
      exact G_iret hO dX5_goesOn_29 rfl h.1.nb (QI.i h.2)
  · have h := h.2 c1
    refine G_aload_n hO dX5_goesOn_7 rfl rfl ?_
    refine G_aload_n hO dX5_goesOn_8 rfl rfl ?_
    refine gi_X5_189 hO dX5_goesOn_9 (ShM.c0 hC) rfl ?_
    refine G_callVi hO dX5_goesOn_12 h cl_X5_192 (ShM.c0 hC) rfl rfl (Nat.le_of_ble_eq_true rfl) (fun r19 w20 h => ?_) rfl
    exact G_iret hO dX5_goesOn_15 rfl h.1.nb (QI.i h.2)
def wp_X5_part (Γ : Gx) (d : Nat) (p1 : Int32) (p2 : Int32) (w : Wd) (Q : Int32 → Wd → Prop) : Prop :=
  ∀ (P_45 : Wd → Prop),
  (∀ (w : Wd), (((w 0 23) = 0 → CI Γ d M_X5_goesOn [.ref (gad Γ 0)] w (fun r18 w19 => ((¬ r18 = 0 → CV Γ d M_X5_next [.ref (gad Γ 0)] w19 (fun w22 => P_45 w22)) ∧ (r18 = 0 → Q (0 : Int32) w19)))) ∧ (¬ (w 0 23) = 0 → (((w 0 16) = (59 : Int32) → CV Γ d M_X5_lays [.ref (gad Γ 0), .int (1 : Int32)] w (fun w25 => (((w25 0 20) ≤ 0 → (vp_in p1 18 ∧ (∀ w28 : Wd, w28 = wset w25 7 (p1).toNatClampNeg ((w25 0 13) - (w25 6 (p1).toNatClampNeg)) → CV Γ d M_X5_next [.ref (gad Γ 0)] w28 (fun w31 => Q (1 : Int32) w31)))) ∧ (¬ (w25 0 20) ≤ 0 → Q (0 : Int32) w25)))) ∧ (¬ (w 0 16) = (59 : Int32) → CI Γ d M_X5_goesOn [.ref (gad Γ 0)] w (fun r32 w33 => ((¬ r32 = 0 → CV Γ d M_X5_next [.ref (gad Γ 0)] w33 (fun w36 => P_45 w36)) ∧ (r32 = 0 → Q (0 : Int32) w33))))))) → P_45 w) →
  CI Γ d M_X5_takes [.ref (gad Γ 0), .int p2] w (fun r1 w2 => ((¬ r1 = 0 → (vp_in p1 18 ∧ (∀ w5 : Wd, w5 = wset w2 6 (p1).toNatClampNeg (w2 0 13) → (∀ w7 : Wd, w7 = wset w5 0 20 (0 : Int32) → (∀ w9 : Wd, w9 = wset w7 0 21 (0 : Int32) → (∀ w11 : Wd, w11 = wset w9 0 22 (0 : Int32) → (∀ w13 : Wd, w13 = wset w11 0 23 (0 : Int32) → (∀ w15 : Wd, w15 = wset w13 0 24 (1 : Int32) → P_45 w15)))))))) ∧ (r1 = 0 → Q (0 : Int32) w2)))
set_option maxRecDepth 20000 in
theorem con_X5_part {Γ : Gx} {d : Nat} (hG : GM Γ) {p1 : Int32} {p2 : Int32}  {w : Wd} {Q : Int32 → Wd → Prop} (h : wp_X5_part Γ d p1 p2 w Q) : CI Γ (d + 1) M_X5_part [.ref (gad Γ 0), .int p1, .int p2] w Q := by
  have hC := hG.2
  refine Con.of RX5 cX5_part 3 (some .boolean) [some (.ref (gad Γ 0)), some (.int p1), some (.int p2)] rfl rfl (by decide +kernel) hG.1 (catR (catI (catI cat0))) (Nat.le_of_ble_eq_true rfl) rfl ?_
  intro X hO
  have h := h
    (fun (w : Wd) => GG Γ X (d + 1) 3 (QI Q) 45 [some (.ref (gad Γ 0)), some (.int p1), none] [] w)
    (by
        intro w h
        refine G_aload_n hO dX5_part_45 rfl rfl ?_
        refine gi_X5_179 hO dX5_part_46 (ShM.c0 hC) rfl ?_
        refine G_if_eq (tgt := 61) hO dX5_part_49 (by decide) (fun c17 => ?_) (fun c17 => ?_)
        · have h := h.1 c17
          refine G_aload_n hO dX5_part_61 rfl rfl ?_
          refine G_callVi hO dX5_part_62 h cl_X5_205 (ShM.c0 hC) rfl rfl (Nat.le_of_ble_eq_true rfl) (fun r18 w19 h => ?_) rfl
          refine G_if_ne (tgt := 70) hO dX5_part_65 (by decide) (fun c20 => ?_) (fun c20 => ?_)
          · have h := h.1 c20
            refine G_aload_n hO dX5_part_70 rfl rfl ?_
            refine G_callVv hO dX5_part_71 h cl_X5_161 (ShM.c0 hC) rfl rfl (Nat.le_of_ble_eq_true rfl) (fun w22 h => ?_) rfl
            refine G_goto (tgt := 45) hO dX5_part_74 (by decide) ?_
            exact GG.sub (lv2 := [some (.ref (gad Γ 0)), some (.int p1), none]) ⟨rfl, ⟨rfl, trivial⟩⟩ h
          · have h := h.2 c20
            refine G_iconst (v := 0) hO dX5_part_68 rfl ?_
            exact G_iret hO dX5_part_69 rfl rfl (QI.i h)
        · have h := h.2 c17
          refine G_aload_n hO dX5_part_52 rfl rfl ?_
          refine gi_X5_138 hO dX5_part_53 (ShM.c0 hC) rfl ?_
          refine G_bipush (v := 59) hO dX5_part_56 rfl ?_
          refine G_icmp_eq (tgt := 77) hO dX5_part_58 (by decide) (fun c23 => ?_) (fun c23 => ?_)
          · have h := h.1 c23
            refine G_aload_n hO dX5_part_77 rfl rfl ?_
            refine G_iconst (v := 1) hO dX5_part_78 rfl ?_
            refine G_callVv hO dX5_part_79 h cl_X5_176 (ShM.c0 hC) rfl rfl (Nat.le_of_ble_eq_true rfl) (fun w25 h => ?_) rfl
            refine G_aload_n hO dX5_part_82 rfl rfl ?_
            refine gi_X5_167 hO dX5_part_83 (ShM.c0 hC) rfl ?_
            refine G_if_le (tgt := 91) hO dX5_part_86 (by decide) (fun c26 => ?_) (fun c26 => ?_)
            · have h := h.1 c26
              refine G_aload_n hO dX5_part_91 rfl rfl ?_
              refine gr_X5_29 (c := 7) hO dX5_part_92 (ShM.c0 hC) rfl ?_
              refine G_iload_n hO dX5_part_95 rfl rfl ?_
              refine G_aload_n hO dX5_part_96 rfl rfl ?_
              refine gi_X5_164 hO dX5_part_97 (ShM.c0 hC) rfl ?_
              refine G_aload_n hO dX5_part_100 rfl rfl ?_
              refine gr_X5_26 (c := 6) hO dX5_part_101 (ShM.c0 hC) rfl ?_
              refine G_iload_n hO dX5_part_104 rfl rfl ?_
              obtain ⟨c27, h⟩ := h
              refine G_iaload hO dX5_part_105 (ShM.c6 hC) c27 ?_
              refine G_isub hO dX5_part_106 ?_
              refine G_iastore hO dX5_part_107 (ShM.c7 hC) c27 ?_
              refine GG.nmw (fun w28 e29 => ?_)
              have h := h w28 e29
              refine G_aload_n hO dX5_part_108 rfl rfl ?_
              refine GG.atpc (pc2 := 109) rfl ?_
              refine G_callVv hO dX5_part_109 h cl_X5_161 (ShM.c0 hC) rfl rfl (Nat.le_of_ble_eq_true rfl) (fun w31 h => ?_) rfl
              refine G_iconst (v := 1) hO dX5_part_112 rfl ?_
              exact G_iret hO dX5_part_113 rfl rfl (QI.i h)
            · have h := h.2 c26
              refine G_iconst (v := 0) hO dX5_part_89 rfl ?_
              exact G_iret hO dX5_part_90 rfl rfl (QI.i h)
          · have h := h.2 c23
            refine G_aload_n hO dX5_part_61 rfl rfl ?_
            refine G_callVi hO dX5_part_62 h cl_X5_205 (ShM.c0 hC) rfl rfl (Nat.le_of_ble_eq_true rfl) (fun r32 w33 h => ?_) rfl
            refine G_if_ne (tgt := 70) hO dX5_part_65 (by decide) (fun c34 => ?_) (fun c34 => ?_)
            · have h := h.1 c34
              refine G_aload_n hO dX5_part_70 rfl rfl ?_
              refine G_callVv hO dX5_part_71 h cl_X5_161 (ShM.c0 hC) rfl rfl (Nat.le_of_ble_eq_true rfl) (fun w36 h => ?_) rfl
              refine G_goto (tgt := 45) hO dX5_part_74 (by decide) ?_
              exact GG.sub (lv2 := [some (.ref (gad Γ 0)), some (.int p1), none]) ⟨rfl, ⟨rfl, trivial⟩⟩ h
            · have h := h.2 c34
              refine G_iconst (v := 0) hO dX5_part_68 rfl ?_
              exact G_iret hO dX5_part_69 rfl rfl (QI.i h))
  refine G_aload_n hO dX5_part_0 rfl rfl ?_
  refine G_iload_n hO dX5_part_1 rfl rfl ?_
  refine G_callVi hO dX5_part_2 h cl_X5_202 (ShM.c0 hC) rfl rfl (Nat.le_of_ble_eq_true rfl) (fun r1 w2 h => ?_) rfl
  refine G_if_ne (tgt := 10) hO dX5_part_5 (by decide) (fun c3 => ?_) (fun c3 => ?_)
  · have h := h.1 c3
    refine G_aload_n hO dX5_part_10 rfl rfl ?_
    refine gr_X5_26 (c := 6) hO dX5_part_11 (ShM.c0 hC) rfl ?_
    refine G_iload_n hO dX5_part_14 rfl rfl ?_
    refine G_aload_n hO dX5_part_15 rfl rfl ?_
    refine gi_X5_164 hO dX5_part_16 (ShM.c0 hC) rfl ?_
    obtain ⟨c4, h⟩ := h
    refine G_iastore hO dX5_part_19 (ShM.c6 hC) c4 ?_
    refine GG.nmw (fun w5 e6 => ?_)
    have h := h w5 e6
    refine G_aload_n hO dX5_part_20 rfl rfl ?_
    refine G_iconst (v := 0) hO dX5_part_21 rfl ?_
    refine pi_X5_167 hO dX5_part_22 (ShM.c0 hC) rfl ?_
    refine GG.nmw (fun w7 e8 => ?_)
    have h := h w7 e8
    refine G_aload_n hO dX5_part_25 rfl rfl ?_
    refine G_iconst (v := 0) hO dX5_part_26 rfl ?_
    refine pi_X5_173 hO dX5_part_27 (ShM.c0 hC) rfl ?_
    refine GG.nmw (fun w9 e10 => ?_)
    have h := h w9 e10
    refine GG.atpc (pc2 := 30) rfl ?_
    refine G_aload_n hO dX5_part_30 rfl rfl ?_
    refine G_iconst (v := 0) hO dX5_part_31 rfl ?_
    refine pi_X5_183 hO dX5_part_32 (ShM.c0 hC) rfl (Or.inl rfl) ?_
    refine GG.nmw (fun w11 e12 => ?_)
    have h := h w11 e12
    refine G_aload_n hO dX5_part_35 rfl rfl ?_
    refine G_iconst (v := 0) hO dX5_part_36 rfl ?_
    refine pi_X5_179 hO dX5_part_37 (ShM.c0 hC) rfl (Or.inl rfl) ?_
    refine GG.nmw (fun w13 e14 => ?_)
    have h := h w13 e14
    refine G_aload_n hO dX5_part_40 rfl rfl ?_
    refine G_iconst (v := 1) hO dX5_part_41 rfl ?_
    refine pi_X5_189 hO dX5_part_42 (ShM.c0 hC) rfl (Or.inr rfl) ?_
    refine GG.nmw (fun w15 e16 => ?_)
    have h := h w15 e16
    exact GG.sub (lv2 := [some (.ref (gad Γ 0)), some (.int p1), none]) ⟨rfl, ⟨rfl, trivial⟩⟩ h
  · have h := h.2 c3
    refine G_iconst (v := 0) hO dX5_part_8 rfl ?_
    exact G_iret hO dX5_part_9 rfl rfl (QI.i h)
def wp_X5_text (Γ : Gx) (d : Nat)  (w : Wd) (Q : Int32 → Wd → Prop) : Prop :=
  ∀ (P_89 : Int32 → Int32 → Wd → Prop),
  (∀ (l1 : Int32) (s0 : Int32) (w : Wd), (∀ w16 : Wd, w16 = wset w 0 7 (0 : Int32) → ((s0 = 0 → (∀ w19 : Wd, w19 = wset w16 0 13 l1 → Q ((-100 : Int32) - (w19 0 14)) w19)) ∧ (¬ s0 = 0 → (∀ w21 : Wd, w21 = wset w16 0 9 ((w16 0 9) + (1 : Int32)) → Q (w16 0 9) w21)))) → P_89 l1 s0 w) →
  ((¬ (w 0 9) = (6 : Int32) → (∀ w2 : Wd, w2 = wset w 0 15 (0 : Int32) → CV Γ d M_X5_next [.ref (gad Γ 0)] w2 (fun w5 => CI Γ d M_X5_part [.ref (gad Γ 0), .int ((3 : Int32) * (w5 0 9)), .int (74917 : Int32)] w5 (fun r6 w7 => ((r6 = 0 → P_89 (w 0 13) (0 : Int32) w7) ∧ (¬ r6 = 0 → CI Γ d M_X5_part [.ref (gad Γ 0), .int (((3 : Int32) * (w7 0 9)) + (1 : Int32)), .int (3291049 : Int32)] w7 (fun r9 w10 => ((r9 = 0 → P_89 (w 0 13) (0 : Int32) w10) ∧ (¬ r9 = 0 → CI Γ d M_X5_part [.ref (gad Γ 0), .int (((3 : Int32) * (w10 0 9)) + (2 : Int32)), .int (10206127 : Int32)] w10 (fun r12 w13 => ((r12 = 0 → P_89 (w 0 13) (0 : Int32) w13) ∧ (¬ r12 = 0 → ((¬ (w13 0 16) = (101 : Int32) → P_89 (w 0 13) (0 : Int32) w13) ∧ ((w13 0 16) = (101 : Int32) → P_89 (w 0 13) (1 : Int32) w13)))))))))))))) ∧ ((w 0 9) = (6 : Int32) → Q (-4 : Int32) w))
set_option maxRecDepth 20000 in
theorem con_X5_text {Γ : Gx} {d : Nat} (hG : GM Γ)   {w : Wd} {Q : Int32 → Wd → Prop} (h : wp_X5_text Γ d  w Q) : CI Γ (d + 1) M_X5_text [.ref (gad Γ 0)] w Q := by
  have hC := hG.2
  refine Con.of RX5 cX5_text 3 (some .int) [some (.ref (gad Γ 0)), none, none] rfl rfl (by decide +kernel) hG.1 (catR cat0) (Nat.le_of_ble_eq_true rfl) rfl ?_
  intro X hO
  have h := h
    (fun (l1 : Int32) (s0 : Int32) (w : Wd) => GG Γ X (d + 1) 3 (QI Q) 89 [some (.ref (gad Γ 0)), some (.int l1), none] [.int s0] w)
    (by
        intro l1 s0 w h
        refine G_istore_n (lv2 := [some (.ref (gad Γ 0)), some (.int l1), some (.int s0)]) hO dX5_text_89 rfl (by decide) rfl rfl ?_
        refine G_aload_n hO dX5_text_90 rfl rfl ?_
        refine G_iconst (v := 0) hO dX5_text_91 rfl ?_
        refine pi_X5_126 hO dX5_text_92 (ShM.c0 hC) rfl ?_
        refine GG.nmw (fun w16 e17 => ?_)
        have h := h w16 e17
        refine G_iload_n hO dX5_text_95 rfl rfl ?_
        refine G_if_eq (tgt := 111) hO dX5_text_96 (by decide) (fun c18 => ?_) (fun c18 => ?_)
        · have h := h.1 c18
          refine G_aload_n hO dX5_text_111 rfl rfl ?_
          refine G_iload_n hO dX5_text_112 rfl rfl ?_
          refine pi_X5_164 hO dX5_text_113 (ShM.c0 hC) rfl ?_
          refine GG.nmw (fun w19 e20 => ?_)
          have h := h w19 e20
          refine G_bipush (v := -100) hO dX5_text_116 rfl ?_
          refine G_aload_n hO dX5_text_118 rfl rfl ?_
          refine gi_X5_135 hO dX5_text_119 (ShM.c0 hC) rfl ?_
          refine G_isub hO dX5_text_122 ?_
          exact G_iret hO dX5_text_123 rfl rfl (QI.i h)
        · have h := h.2 c18
          refine G_aload_n hO dX5_text_99 rfl rfl ?_
          refine G_dup hO dX5_text_100 rfl ?_
          refine gi_X5_76 hO dX5_text_101 (ShM.c0 hC) rfl ?_
          refine G_dup_x1 hO dX5_text_104 rfl rfl ?_
          refine G_iconst (v := 1) hO dX5_text_105 rfl ?_
          refine G_iadd hO dX5_text_106 ?_
          refine pi_X5_76 hO dX5_text_107 (ShM.c0 hC) rfl ?_
          refine GG.nmw (fun w21 e22 => ?_)
          have h := h w21 e22
          exact G_iret hO dX5_text_110 rfl rfl (QI.i h))
  refine G_aload_n hO dX5_text_0 rfl rfl ?_
  refine gi_X5_76 hO dX5_text_1 (ShM.c0 hC) rfl ?_
  refine G_bipush (v := 6) hO dX5_text_4 rfl ?_
  refine G_icmp_ne (tgt := 12) hO dX5_text_6 (by decide) (fun c1 => ?_) (fun c1 => ?_)
  · have h := h.1 c1
    refine G_aload_n hO dX5_text_12 rfl rfl ?_
    refine gi_X5_164 hO dX5_text_13 (ShM.c0 hC) rfl ?_
    refine G_istore_n (lv2 := [some (.ref (gad Γ 0)), some (.int (w 0 13)), none]) hO dX5_text_16 rfl (by decide) rfl rfl ?_
    refine G_aload_n hO dX5_text_17 rfl rfl ?_
    refine G_iconst (v := 0) hO dX5_text_18 rfl ?_
    refine pi_X5_132 hO dX5_text_19 (ShM.c0 hC) rfl ?_
    refine GG.nmw (fun w2 e3 => ?_)
    have h := h w2 e3
    refine G_aload_n hO dX5_text_22 rfl rfl ?_
    refine G_callVv hO dX5_text_23 h cl_X5_161 (ShM.c0 hC) rfl rfl (Nat.le_of_ble_eq_true rfl) (fun w5 h => ?_) rfl
    refine G_aload_n hO dX5_text_26 rfl rfl ?_
    refine G_iconst (v := 3) hO dX5_text_27 rfl ?_
    refine G_aload_n hO dX5_text_28 rfl rfl ?_
    refine gi_X5_76 hO dX5_text_29 (ShM.c0 hC) rfl ?_
    refine GG.atpc (pc2 := 32) rfl ?_
    refine G_imul hO dX5_text_32 ?_
    refine G_ldc (v := 74917) hO dX5_text_33 kc_X5_208 ?_
    refine G_callVi hO dX5_text_35 h cl_X5_209 (ShM.c0 hC) rfl rfl (Nat.le_of_ble_eq_true rfl) (fun r6 w7 h => ?_) rfl
    refine G_if_eq (tgt := 88) hO dX5_text_38 (by decide) (fun c8 => ?_) (fun c8 => ?_)
    · have h := h.1 c8
      refine G_iconst (v := 0) hO dX5_text_88 rfl ?_
      exact GG.sub (lv2 := [some (.ref (gad Γ 0)), some (.int (w 0 13)), none]) ⟨rfl, ⟨rfl, trivial⟩⟩ h
    · have h := h.2 c8
      refine G_aload_n hO dX5_text_41 rfl rfl ?_
      refine G_iconst (v := 3) hO dX5_text_42 rfl ?_
      refine G_aload_n hO dX5_text_43 rfl rfl ?_
      refine gi_X5_76 hO dX5_text_44 (ShM.c0 hC) rfl ?_
      refine G_imul hO dX5_text_47 ?_
      refine G_iconst (v := 1) hO dX5_text_48 rfl ?_
      refine G_iadd hO dX5_text_49 ?_
      refine G_ldc (v := 3291049) hO dX5_text_50 kc_X5_212 ?_
      refine G_callVi hO dX5_text_52 h cl_X5_209 (ShM.c0 hC) rfl rfl (Nat.le_of_ble_eq_true rfl) (fun r9 w10 h => ?_) rfl
      refine G_if_eq (tgt := 88) hO dX5_text_55 (by decide) (fun c11 => ?_) (fun c11 => ?_)
      · have h := h.1 c11
        refine G_iconst (v := 0) hO dX5_text_88 rfl ?_
        exact GG.sub (lv2 := [some (.ref (gad Γ 0)), some (.int (w 0 13)), none]) ⟨rfl, ⟨rfl, trivial⟩⟩ h
      · have h := h.2 c11
        refine G_aload_n hO dX5_text_58 rfl rfl ?_
        refine G_iconst (v := 3) hO dX5_text_59 rfl ?_
        refine G_aload_n hO dX5_text_60 rfl rfl ?_
        refine gi_X5_76 hO dX5_text_61 (ShM.c0 hC) rfl ?_
        refine G_imul hO dX5_text_64 ?_
        refine G_iconst (v := 2) hO dX5_text_65 rfl ?_
        refine G_iadd hO dX5_text_66 ?_
        refine G_ldc (v := 10206127) hO dX5_text_67 kc_X5_213 ?_
        refine G_callVi hO dX5_text_69 h cl_X5_209 (ShM.c0 hC) rfl rfl (Nat.le_of_ble_eq_true rfl) (fun r12 w13 h => ?_) rfl
        refine G_if_eq (tgt := 88) hO dX5_text_72 (by decide) (fun c14 => ?_) (fun c14 => ?_)
        · have h := h.1 c14
          refine G_iconst (v := 0) hO dX5_text_88 rfl ?_
          exact GG.sub (lv2 := [some (.ref (gad Γ 0)), some (.int (w 0 13)), none]) ⟨rfl, ⟨rfl, trivial⟩⟩ h
        · have h := h.2 c14
          refine G_aload_n hO dX5_text_75 rfl rfl ?_
          refine gi_X5_138 hO dX5_text_76 (ShM.c0 hC) rfl ?_
          refine G_bipush (v := 101) hO dX5_text_79 rfl ?_
          refine G_icmp_ne (tgt := 88) hO dX5_text_81 (by decide) (fun c15 => ?_) (fun c15 => ?_)
          · have h := h.1 c15
            refine G_iconst (v := 0) hO dX5_text_88 rfl ?_
            exact GG.sub (lv2 := [some (.ref (gad Γ 0)), some (.int (w 0 13)), none]) ⟨rfl, ⟨rfl, trivial⟩⟩ h
          · have h := h.2 c15
            refine G_iconst (v := 1) hO dX5_text_84 rfl ?_
            refine G_goto (tgt := 89) hO dX5_text_85 (by decide) ?_
            exact GG.sub (lv2 := [some (.ref (gad Γ 0)), some (.int (w 0 13)), none]) ⟨rfl, ⟨rfl, trivial⟩⟩ h
  · have h := h.2 c1
    refine G_bipush (v := -4) hO dX5_text_9 rfl ?_
    exact G_iret hO dX5_text_11 rfl rfl (QI.i h)
def wp_X5_force (Γ : Gx) (d : Nat) (p1 : Int32) (w : Wd) (Q : Int32 → Wd → Prop) : Prop :=
  CI Γ d M_X5_within [.int p1, .int (0 : Int32), .int ((w 0 9) - (1 : Int32))] w (fun r1 w2 => ((¬ r1 = 0 → (∀ w4 : Wd, w4 = wset w2 0 6 p1 → Q (w2 0 6) w4)) ∧ (r1 = 0 → Q (-2 : Int32) w2)))
set_option maxRecDepth 20000 in
theorem con_X5_force {Γ : Gx} {d : Nat} (hG : GM Γ) {p1 : Int32}  {w : Wd} {Q : Int32 → Wd → Prop} (h : wp_X5_force Γ d p1 w Q) : CI Γ (d + 1) M_X5_force [.ref (gad Γ 0), .int p1] w Q := by
  have hC := hG.2
  refine Con.of RX5 cX5_force 3 (some .int) [some (.ref (gad Γ 0)), some (.int p1), none] rfl rfl (by decide +kernel) hG.1 (catR (catI cat0)) (Nat.le_of_ble_eq_true rfl) rfl ?_
  intro X hO
  refine G_iload_n hO dX5_force_0 rfl rfl ?_
  refine G_iconst (v := 0) hO dX5_force_1 rfl ?_
  refine G_aload_n hO dX5_force_2 rfl rfl ?_
  refine gi_X5_76 hO dX5_force_3 (ShM.c0 hC) rfl ?_
  refine G_iconst (v := 1) hO dX5_force_6 rfl ?_
  refine G_isub hO dX5_force_7 ?_
  refine G_callSi hO dX5_force_8 h cl_X5_82 rfl (Nat.le_of_ble_eq_true rfl) (fun r1 w2 h => ?_) rfl
  refine G_if_ne (tgt := 17) hO dX5_force_11 (by decide) (fun c3 => ?_) (fun c3 => ?_)
  · have h := h.1 c3
    refine G_aload_n hO dX5_force_17 rfl rfl ?_
    refine gi_X5_214 hO dX5_force_18 (ShM.c0 hC) rfl ?_
    refine G_istore_n (lv2 := [some (.ref (gad Γ 0)), some (.int p1), some (.int (w2 0 6))]) hO dX5_force_21 rfl (by decide) rfl rfl ?_
    refine G_aload_n hO dX5_force_22 rfl rfl ?_
    refine G_iload_n hO dX5_force_23 rfl rfl ?_
    refine pi_X5_214 hO dX5_force_24 (ShM.c0 hC) rfl ?_
    refine GG.nmw (fun w4 e5 => ?_)
    have h := h w4 e5
    refine G_iload_n hO dX5_force_27 rfl rfl ?_
    exact G_iret hO dX5_force_28 rfl rfl (QI.i h)
  · have h := h.2 c3
    refine G_bipush (v := -2) hO dX5_force_14 rfl ?_
    exact G_iret hO dX5_force_16 rfl rfl (QI.i h)
def wp_X5_ruled (Γ : Gx) (d : Nat) (p1 : Int32) (w : Wd) (Q : Int32 → Wd → Prop) : Prop :=
  ∀ (P_19 : Int32 → Int32 → Int32 → Wd → Prop),
  ∀ (P_61 : Int32 → Int32 → Int32 → Int32 → Wd → Prop),
  ∀ (P_109 : Int32 → Int32 → Int32 → Int32 → Wd → Prop),
  (∀ (l2 : Int32) (l3 : Int32) (l4 : Int32) (w : Wd), (vp_in (((3 : Int32) * (w 0 6)) + p1) 18 ∧ (((l3 + (w 7 ((((3 : Int32) * (w 0 6)) + p1)).toNatClampNeg)) ≤ l4 → Q (w 10 0) w) ∧ (¬ (l3 + (w 7 ((((3 : Int32) * (w 0 6)) + p1)).toNatClampNeg)) ≤ l4 → (vp_in l4 3000 ∧ (((15 : Int32) ≤ (w 8 (l4).toNatClampNeg) → P_61 l2 l3 l4 (w 8 (l4).toNatClampNeg) w) ∧ (¬ (15 : Int32) ≤ (w 8 (l4).toNatClampNeg) → (((5 : Int32) < (w 8 (l4).toNatClampNeg) → (((w 8 (l4).toNatClampNeg) = (13 : Int32) → P_109 l2 l3 l4 (w 8 (l4).toNatClampNeg) w) ∧ (¬ (w 8 (l4).toNatClampNeg) = (13 : Int32) → ((¬ (w 8 (l4).toNatClampNeg) = (14 : Int32) → (vp_in ((l2 + (-1)) - (1 : Int32)) 200 ∧ (vp_in (l2 + (-1)) 200 ∧ CI Γ d M_X5_both [.int (w 8 (l4).toNatClampNeg), .int (w 10 (((l2 + (-1)) - (1 : Int32))).toNatClampNeg), .int (w 10 ((l2 + (-1))).toNatClampNeg)] w (fun r13 w14 => (∀ w15 : Wd, w15 = wset w14 10 (((l2 + (-1)) - (1 : Int32))).toNatClampNeg r13 → P_19 (l2 + (-1)) l3 (l4 + 1) w15))))) ∧ ((w 8 (l4).toNatClampNeg) = (14 : Int32) → P_109 l2 l3 l4 (w 8 (l4).toNatClampNeg) w))))) ∧ (¬ (5 : Int32) < (w 8 (l4).toNatClampNeg) → P_61 l2 l3 l4 (w 8 (l4).toNatClampNeg) w)))))))) → P_19 l2 l3 l4 w) →
  (∀ (l2 : Int32) (l3 : Int32) (l4 : Int32) (l5 : Int32) (w : Wd), ((l5 < (15 : Int32) → (vp_in l5 6 ∧ (vp_in l2 200 ∧ (∀ w20 : Wd, w20 = wset w 10 (l2).toNatClampNeg (w 11 (l5).toNatClampNeg) → P_19 (l2 + 1) l3 (l4 + 1) w20)))) ∧ (¬ l5 < (15 : Int32) → (vp_in l2 200 ∧ (∀ w23 : Wd, w23 = wset w 10 (l2).toNatClampNeg (l5 - (15 : Int32)) → P_19 (l2 + 1) l3 (l4 + 1) w23)))) → P_61 l2 l3 l4 l5 w) →
  (∀ (l2 : Int32) (l3 : Int32) (l4 : Int32) (l5 : Int32) (w : Wd), ((¬ l5 = (14 : Int32) → (vp_in (l2 - (1 : Int32)) 200 ∧ ((¬ (w 10 ((l2 - (1 : Int32))).toNatClampNeg) = 0 → (∀ w28 : Wd, w28 = wset w 10 ((l2 - (1 : Int32))).toNatClampNeg (0 : Int32) → P_19 l2 l3 (l4 + 1) w28)) ∧ ((w 10 ((l2 - (1 : Int32))).toNatClampNeg) = 0 → (∀ w30 : Wd, w30 = wset w 10 ((l2 - (1 : Int32))).toNatClampNeg (1 : Int32) → P_19 l2 l3 (l4 + 1) w30))))) ∧ (l5 = (14 : Int32) → (vp_in (l2 - (1 : Int32)) 200 ∧ (∀ w33 : Wd, w33 = wset w 10 ((l2 - (1 : Int32))).toNatClampNeg (-(w 10 ((l2 - (1 : Int32))).toNatClampNeg)) → P_19 l2 l3 (l4 + 1) w33)))) → P_109 l2 l3 l4 l5 w) →
  (vp_in (((3 : Int32) * (w 0 6)) + p1) 18 ∧ (∀ v2 : Int32, v2 = (w 6 ((((3 : Int32) * (w 0 6)) + p1)).toNatClampNeg) → P_19 (0 : Int32) v2 v2 w))
set_option maxRecDepth 20000 in
theorem con_X5_ruled {Γ : Gx} {d : Nat} (hG : GM Γ) {p1 : Int32}  {w : Wd} {Q : Int32 → Wd → Prop} (h : wp_X5_ruled Γ d p1 w Q) : CI Γ (d + 1) M_X5_ruled [.ref (gad Γ 0), .int p1] w Q := by
  have hC := hG.2
  refine Con.of RX5 cX5_ruled 6 (some .int) [some (.ref (gad Γ 0)), some (.int p1), none, none, none, none] rfl rfl (by decide +kernel) hG.1 (catR (catI cat0)) (Nat.le_of_ble_eq_true rfl) rfl ?_
  intro X hO
  have h := h
    (fun (l2 : Int32) (l3 : Int32) (l4 : Int32) (w : Wd) => GG Γ X (d + 1) 6 (QI Q) 19 [some (.ref (gad Γ 0)), some (.int p1), some (.int l2), some (.int l3), some (.int l4), none] [] w)
    (fun (l2 : Int32) (l3 : Int32) (l4 : Int32) (l5 : Int32) (w : Wd) => GG Γ X (d + 1) 6 (QI Q) 61 [some (.ref (gad Γ 0)), some (.int p1), some (.int l2), some (.int l3), some (.int l4), some (.int l5)] [] w)
    (fun (l2 : Int32) (l3 : Int32) (l4 : Int32) (l5 : Int32) (w : Wd) => GG Γ X (d + 1) 6 (QI Q) 109 [some (.ref (gad Γ 0)), some (.int p1), some (.int l2), some (.int l3), some (.int l4), some (.int l5)] [] w)
    (by
        intro l2 l3 l4 w h
        refine G_iload hO dX5_ruled_19 rfl ?_
        refine G_iload_n hO dX5_ruled_21 rfl rfl ?_
        refine G_aload_n hO dX5_ruled_22 rfl rfl ?_
        refine gr_X5_29 (c := 7) hO dX5_ruled_23 (ShM.c0 hC) rfl ?_
        refine G_iconst (v := 3) hO dX5_ruled_26 rfl ?_
        refine G_aload_n hO dX5_ruled_27 rfl rfl ?_
        refine gi_X5_214 hO dX5_ruled_28 (ShM.c0 hC) rfl ?_
        refine G_imul hO dX5_ruled_31 ?_
        refine G_iload_n hO dX5_ruled_32 rfl rfl ?_
        refine G_iadd hO dX5_ruled_33 ?_
        obtain ⟨c4, h⟩ := h
        refine G_iaload hO dX5_ruled_34 (ShM.c7 hC) c4 ?_
        refine G_iadd hO dX5_ruled_35 ?_
        refine GG.atpc (pc2 := 36) rfl ?_
        refine G_icmp_ge (tgt := 191) hO dX5_ruled_36 (by decide) (fun c5 => ?_) (fun c5 => ?_)
        · have h := h.1 c5
          refine G_aload_n hO dX5_ruled_191 rfl rfl ?_
          refine gr_X5_38 (c := 10) hO dX5_ruled_192 (ShM.c0 hC) rfl ?_
          refine G_iconst (v := 0) hO dX5_ruled_195 rfl ?_
          refine G_iaload hO dX5_ruled_196 (ShM.c10 hC) (by unfold vp_in; decide) ?_
          exact G_iret hO dX5_ruled_197 rfl rfl (QI.i h)
        · have h := h.2 c5
          refine G_aload_n hO dX5_ruled_39 rfl rfl ?_
          refine gr_X5_32 (c := 8) hO dX5_ruled_40 (ShM.c0 hC) rfl ?_
          refine G_iload hO dX5_ruled_43 rfl ?_
          obtain ⟨c6, h⟩ := h
          refine G_iaload hO dX5_ruled_45 (ShM.c8 hC) c6 ?_
          refine G_istore (lv2 := [some (.ref (gad Γ 0)), some (.int p1), some (.int l2), some (.int l3), some (.int l4), some (.int (w 8 (l4).toNatClampNeg))]) hO dX5_ruled_46 (by decide) rfl rfl ?_
          refine G_iload hO dX5_ruled_48 rfl ?_
          refine G_bipush (v := 15) hO dX5_ruled_50 rfl ?_
          refine G_icmp_ge (tgt := 61) hO dX5_ruled_52 (by decide) (fun c7 => ?_) (fun c7 => ?_)
          · have h := h.1 c7
            exact GG.sub (lv2 := [some (.ref (gad Γ 0)), some (.int p1), some (.int l2), some (.int l3), some (.int l4), some (.int (w 8 (l4).toNatClampNeg))]) ⟨rfl, ⟨rfl, ⟨rfl, ⟨rfl, ⟨rfl, ⟨rfl, trivial⟩⟩⟩⟩⟩⟩ h
          · have h := h.2 c7
            refine G_iload hO dX5_ruled_55 rfl ?_
            refine G_iconst (v := 5) hO dX5_ruled_57 rfl ?_
            refine G_icmp_gt (tgt := 95) hO dX5_ruled_58 (by decide) (fun c8 => ?_) (fun c8 => ?_)
            · have h := h.1 c8
              refine G_iload hO dX5_ruled_95 rfl ?_
              refine G_bipush (v := 13) hO dX5_ruled_97 rfl ?_
              refine G_icmp_eq (tgt := 109) hO dX5_ruled_99 (by decide) (fun c9 => ?_) (fun c9 => ?_)
              · have h := h.1 c9
                exact GG.sub (lv2 := [some (.ref (gad Γ 0)), some (.int p1), some (.int l2), some (.int l3), some (.int l4), some (.int (w 8 (l4).toNatClampNeg))]) ⟨rfl, ⟨rfl, ⟨rfl, ⟨rfl, ⟨rfl, ⟨rfl, trivial⟩⟩⟩⟩⟩⟩ h
              · have h := h.2 c9
                refine G_iload hO dX5_ruled_102 rfl ?_
                refine G_bipush (v := 14) hO dX5_ruled_104 rfl ?_
                refine G_icmp_ne (tgt := 155) hO dX5_ruled_106 (by decide) (fun c10 => ?_) (fun c10 => ?_)
                · have h := h.1 c10
                  refine G_iinc (v := (l2 + (-1))) (lv2 := [some (.ref (gad Γ 0)), some (.int p1), some (.int (l2 + (-1))), some (.int l3), some (.int l4), some (.int (w 8 (l4).toNatClampNeg))]) hO dX5_ruled_155 rfl rfl (by decide) rfl rfl ?_
                  refine G_aload_n hO dX5_ruled_158 rfl rfl ?_
                  refine gr_X5_38 (c := 10) hO dX5_ruled_159 (ShM.c0 hC) rfl ?_
                  refine G_iload_n hO dX5_ruled_162 rfl rfl ?_
                  refine G_iconst (v := 1) hO dX5_ruled_163 rfl ?_
                  refine G_isub hO dX5_ruled_164 ?_
                  refine G_iload hO dX5_ruled_165 rfl ?_
                  refine G_aload_n hO dX5_ruled_167 rfl rfl ?_
                  refine gr_X5_38 (c := 10) hO dX5_ruled_168 (ShM.c0 hC) rfl ?_
                  refine G_iload_n hO dX5_ruled_171 rfl rfl ?_
                  refine G_iconst (v := 1) hO dX5_ruled_172 rfl ?_
                  refine G_isub hO dX5_ruled_173 ?_
                  refine GG.atpc (pc2 := 174) rfl ?_
                  obtain ⟨c11, h⟩ := h
                  refine G_iaload hO dX5_ruled_174 (ShM.c10 hC) c11 ?_
                  refine G_aload_n hO dX5_ruled_175 rfl rfl ?_
                  refine gr_X5_38 (c := 10) hO dX5_ruled_176 (ShM.c0 hC) rfl ?_
                  refine G_iload_n hO dX5_ruled_179 rfl rfl ?_
                  obtain ⟨c12, h⟩ := h
                  refine G_iaload hO dX5_ruled_180 (ShM.c10 hC) c12 ?_
                  refine G_callSi hO dX5_ruled_181 h cl_X5_217 rfl (Nat.le_of_ble_eq_true rfl) (fun r13 w14 h => ?_) rfl
                  refine G_iastore hO dX5_ruled_184 (ShM.c10 hC) c11 ?_
                  refine GG.nmw (fun w15 e16 => ?_)
                  have h := h w15 e16
                  refine G_iinc (v := (l4 + 1)) (lv2 := [some (.ref (gad Γ 0)), some (.int p1), some (.int (l2 + (-1))), some (.int l3), some (.int (l4 + 1)), some (.int (w 8 (l4).toNatClampNeg))]) hO dX5_ruled_185 rfl rfl (by decide) rfl rfl ?_
                  refine G_goto (tgt := 19) hO dX5_ruled_188 (by decide) ?_
                  exact GG.sub (lv2 := [some (.ref (gad Γ 0)), some (.int p1), some (.int (l2 + (-1))), some (.int l3), some (.int (l4 + 1)), none]) ⟨rfl, ⟨rfl, ⟨rfl, ⟨rfl, ⟨rfl, trivial⟩⟩⟩⟩⟩ h
                · have h := h.2 c10
                  exact GG.sub (lv2 := [some (.ref (gad Γ 0)), some (.int p1), some (.int l2), some (.int l3), some (.int l4), some (.int (w 8 (l4).toNatClampNeg))]) ⟨rfl, ⟨rfl, ⟨rfl, ⟨rfl, ⟨rfl, ⟨rfl, trivial⟩⟩⟩⟩⟩⟩ h
            · have h := h.2 c8
              exact GG.sub (lv2 := [some (.ref (gad Γ 0)), some (.int p1), some (.int l2), some (.int l3), some (.int l4), some (.int (w 8 (l4).toNatClampNeg))]) ⟨rfl, ⟨rfl, ⟨rfl, ⟨rfl, ⟨rfl, ⟨rfl, trivial⟩⟩⟩⟩⟩⟩ h)
    (by
        intro l2 l3 l4 l5 w h
        refine G_aload_n hO dX5_ruled_61 rfl rfl ?_
        refine gr_X5_38 (c := 10) hO dX5_ruled_62 (ShM.c0 hC) rfl ?_
        refine G_iload_n hO dX5_ruled_65 rfl rfl ?_
        refine G_iinc (v := (l2 + 1)) (lv2 := [some (.ref (gad Γ 0)), some (.int p1), some (.int (l2 + 1)), some (.int l3), some (.int l4), some (.int l5)]) hO dX5_ruled_66 rfl rfl (by decide) rfl rfl ?_
        refine G_iload hO dX5_ruled_69 rfl ?_
        refine G_bipush (v := 15) hO dX5_ruled_71 rfl ?_
        refine G_icmp_lt (tgt := 84) hO dX5_ruled_73 (by decide) (fun c17 => ?_) (fun c17 => ?_)
        · have h := h.1 c17
          refine G_aload_n hO dX5_ruled_84 rfl rfl ?_
          refine gr_X5_41 (c := 11) hO dX5_ruled_85 (ShM.c0 hC) rfl ?_
          refine G_iload hO dX5_ruled_88 rfl ?_
          obtain ⟨c18, h⟩ := h
          refine G_iaload hO dX5_ruled_90 (ShM.c11 hC) c18 ?_
          obtain ⟨c19, h⟩ := h
          refine G_iastore hO dX5_ruled_91 (ShM.c10 hC) c19 ?_
          refine GG.nmw (fun w20 e21 => ?_)
          have h := h w20 e21
          refine G_goto (tgt := 185) hO dX5_ruled_92 (by decide) ?_
          refine G_iinc (v := (l4 + 1)) (lv2 := [some (.ref (gad Γ 0)), some (.int p1), some (.int (l2 + 1)), some (.int l3), some (.int (l4 + 1)), some (.int l5)]) hO dX5_ruled_185 rfl rfl (by decide) rfl rfl ?_
          refine G_goto (tgt := 19) hO dX5_ruled_188 (by decide) ?_
          exact GG.sub (lv2 := [some (.ref (gad Γ 0)), some (.int p1), some (.int (l2 + 1)), some (.int l3), some (.int (l4 + 1)), none]) ⟨rfl, ⟨rfl, ⟨rfl, ⟨rfl, ⟨rfl, trivial⟩⟩⟩⟩⟩ h
        · have h := h.2 c17
          refine G_iload hO dX5_ruled_76 rfl ?_
          refine G_bipush (v := 15) hO dX5_ruled_78 rfl ?_
          refine G_isub hO dX5_ruled_80 ?_
          refine G_goto (tgt := 91) hO dX5_ruled_81 (by decide) ?_
          obtain ⟨c22, h⟩ := h
          refine G_iastore hO dX5_ruled_91 (ShM.c10 hC) c22 ?_
          refine GG.nmw (fun w23 e24 => ?_)
          have h := h w23 e24
          refine G_goto (tgt := 185) hO dX5_ruled_92 (by decide) ?_
          refine G_iinc (v := (l4 + 1)) (lv2 := [some (.ref (gad Γ 0)), some (.int p1), some (.int (l2 + 1)), some (.int l3), some (.int (l4 + 1)), some (.int l5)]) hO dX5_ruled_185 rfl rfl (by decide) rfl rfl ?_
          refine G_goto (tgt := 19) hO dX5_ruled_188 (by decide) ?_
          exact GG.sub (lv2 := [some (.ref (gad Γ 0)), some (.int p1), some (.int (l2 + 1)), some (.int l3), some (.int (l4 + 1)), none]) ⟨rfl, ⟨rfl, ⟨rfl, ⟨rfl, ⟨rfl, trivial⟩⟩⟩⟩⟩ h)
    (by
        intro l2 l3 l4 l5 w h
        refine G_aload_n hO dX5_ruled_109 rfl rfl ?_
        refine gr_X5_38 (c := 10) hO dX5_ruled_110 (ShM.c0 hC) rfl ?_
        refine G_iload_n hO dX5_ruled_113 rfl rfl ?_
        refine G_iconst (v := 1) hO dX5_ruled_114 rfl ?_
        refine G_isub hO dX5_ruled_115 ?_
        refine G_iload hO dX5_ruled_116 rfl ?_
        refine G_bipush (v := 14) hO dX5_ruled_118 rfl ?_
        refine G_icmp_ne (tgt := 135) hO dX5_ruled_120 (by decide) (fun c25 => ?_) (fun c25 => ?_)
        · have h := h.1 c25
          refine G_aload_n hO dX5_ruled_135 rfl rfl ?_
          refine gr_X5_38 (c := 10) hO dX5_ruled_136 (ShM.c0 hC) rfl ?_
          refine G_iload_n hO dX5_ruled_139 rfl rfl ?_
          refine G_iconst (v := 1) hO dX5_ruled_140 rfl ?_
          refine G_isub hO dX5_ruled_141 ?_
          obtain ⟨c26, h⟩ := h
          refine G_iaload hO dX5_ruled_142 (ShM.c10 hC) c26 ?_
          refine G_if_ne (tgt := 150) hO dX5_ruled_143 (by decide) (fun c27 => ?_) (fun c27 => ?_)
          · have h := h.1 c27
            refine G_iconst (v := 0) hO dX5_ruled_150 rfl ?_
            refine G_iastore hO dX5_ruled_151 (ShM.c10 hC) c26 ?_
            refine GG.nmw (fun w28 e29 => ?_)
            have h := h w28 e29
            refine G_goto (tgt := 185) hO dX5_ruled_152 (by decide) ?_
            refine G_iinc (v := (l4 + 1)) (lv2 := [some (.ref (gad Γ 0)), some (.int p1), some (.int l2), some (.int l3), some (.int (l4 + 1)), some (.int l5)]) hO dX5_ruled_185 rfl rfl (by decide) rfl rfl ?_
            refine G_goto (tgt := 19) hO dX5_ruled_188 (by decide) ?_
            exact GG.sub (lv2 := [some (.ref (gad Γ 0)), some (.int p1), some (.int l2), some (.int l3), some (.int (l4 + 1)), none]) ⟨rfl, ⟨rfl, ⟨rfl, ⟨rfl, ⟨rfl, trivial⟩⟩⟩⟩⟩ h
          · have h := h.2 c27
            refine G_iconst (v := 1) hO dX5_ruled_146 rfl ?_
            refine G_goto (tgt := 151) hO dX5_ruled_147 (by decide) ?_
            refine G_iastore hO dX5_ruled_151 (ShM.c10 hC) c26 ?_
            refine GG.nmw (fun w30 e31 => ?_)
            have h := h w30 e31
            refine G_goto (tgt := 185) hO dX5_ruled_152 (by decide) ?_
            refine G_iinc (v := (l4 + 1)) (lv2 := [some (.ref (gad Γ 0)), some (.int p1), some (.int l2), some (.int l3), some (.int (l4 + 1)), some (.int l5)]) hO dX5_ruled_185 rfl rfl (by decide) rfl rfl ?_
            refine G_goto (tgt := 19) hO dX5_ruled_188 (by decide) ?_
            exact GG.sub (lv2 := [some (.ref (gad Γ 0)), some (.int p1), some (.int l2), some (.int l3), some (.int (l4 + 1)), none]) ⟨rfl, ⟨rfl, ⟨rfl, ⟨rfl, ⟨rfl, trivial⟩⟩⟩⟩⟩ h
        · have h := h.2 c25
          refine G_aload_n hO dX5_ruled_123 rfl rfl ?_
          refine gr_X5_38 (c := 10) hO dX5_ruled_124 (ShM.c0 hC) rfl ?_
          refine G_iload_n hO dX5_ruled_127 rfl rfl ?_
          refine G_iconst (v := 1) hO dX5_ruled_128 rfl ?_
          refine G_isub hO dX5_ruled_129 ?_
          obtain ⟨c32, h⟩ := h
          refine G_iaload hO dX5_ruled_130 (ShM.c10 hC) c32 ?_
          refine G_ineg hO dX5_ruled_131 ?_
          refine G_goto (tgt := 151) hO dX5_ruled_132 (by decide) ?_
          refine G_iastore hO dX5_ruled_151 (ShM.c10 hC) c32 ?_
          refine GG.nmw (fun w33 e34 => ?_)
          have h := h w33 e34
          refine G_goto (tgt := 185) hO dX5_ruled_152 (by decide) ?_
          refine G_iinc (v := (l4 + 1)) (lv2 := [some (.ref (gad Γ 0)), some (.int p1), some (.int l2), some (.int l3), some (.int (l4 + 1)), some (.int l5)]) hO dX5_ruled_185 rfl rfl (by decide) rfl rfl ?_
          refine G_goto (tgt := 19) hO dX5_ruled_188 (by decide) ?_
          exact GG.sub (lv2 := [some (.ref (gad Γ 0)), some (.int p1), some (.int l2), some (.int l3), some (.int (l4 + 1)), none]) ⟨rfl, ⟨rfl, ⟨rfl, ⟨rfl, ⟨rfl, trivial⟩⟩⟩⟩⟩ h)
  refine G_iconst (v := 0) hO dX5_ruled_0 rfl ?_
  refine G_istore_n (lv2 := [some (.ref (gad Γ 0)), some (.int p1), some (.int (0 : Int32)), none, none, none]) hO dX5_ruled_1 rfl (by decide) rfl rfl ?_
  refine G_aload_n hO dX5_ruled_2 rfl rfl ?_
  refine gr_X5_26 (c := 6) hO dX5_ruled_3 (ShM.c0 hC) rfl ?_
  refine G_iconst (v := 3) hO dX5_ruled_6 rfl ?_
  refine G_aload_n hO dX5_ruled_7 rfl rfl ?_
  refine gi_X5_214 hO dX5_ruled_8 (ShM.c0 hC) rfl ?_
  refine G_imul hO dX5_ruled_11 ?_
  refine G_iload_n hO dX5_ruled_12 rfl rfl ?_
  refine G_iadd hO dX5_ruled_13 ?_
  obtain ⟨c1, h⟩ := h
  refine G_iaload hO dX5_ruled_14 (ShM.c6 hC) c1 ?_
  refine GG.nmi (fun v2 e3 => ?_)
  have h := h v2 e3
  refine G_istore_n (lv2 := [some (.ref (gad Γ 0)), some (.int p1), some (.int (0 : Int32)), some (.int v2), none, none]) hO dX5_ruled_15 rfl (by decide) rfl rfl ?_
  refine GG.atpc (pc2 := 16) rfl ?_
  refine G_iload_n hO dX5_ruled_16 rfl rfl ?_
  refine G_istore (lv2 := [some (.ref (gad Γ 0)), some (.int p1), some (.int (0 : Int32)), some (.int v2), some (.int v2), none]) hO dX5_ruled_17 (by decide) rfl rfl ?_
  exact GG.sub (lv2 := [some (.ref (gad Γ 0)), some (.int p1), some (.int (0 : Int32)), some (.int v2), some (.int v2), none]) ⟨rfl, ⟨rfl, ⟨rfl, ⟨rfl, ⟨rfl, trivial⟩⟩⟩⟩⟩ h
def wp_X5_both (Γ : Gx) (d : Nat) (p1 : Int32) (p2 : Int32) (p3 : Int32) (w : Wd) (Q : Int32 → Wd → Prop) : Prop :=
  (((p1 = (6 : Int32)) → Q (p2 + p3) w) ∧ ((p1 = (7 : Int32)) → Q (p2 - p3) w) ∧ ((p1 = (8 : Int32)) → Q (p2 * p3) w) ∧ ((p1 = (9 : Int32)) → ((p3 ≤ p2 → Q (0 : Int32) w) ∧ (¬ p3 ≤ p2 → Q (1 : Int32) w))) ∧ ((p1 = (10 : Int32)) → ((¬ p2 = p3 → Q (0 : Int32) w) ∧ (p2 = p3 → Q (1 : Int32) w))) ∧ ((p1 = (11 : Int32)) → ((p2 = 0 → Q (0 : Int32) w) ∧ (¬ p2 = 0 → ((p3 = 0 → Q (0 : Int32) w) ∧ (¬ p3 = 0 → Q (1 : Int32) w))))) ∧ ((¬ p1 = (6 : Int32) ∧ ¬ p1 = (7 : Int32) ∧ ¬ p1 = (8 : Int32) ∧ ¬ p1 = (9 : Int32) ∧ ¬ p1 = (10 : Int32) ∧ ¬ p1 = (11 : Int32)) → ((¬ p2 = 0 → Q (1 : Int32) w) ∧ (p2 = 0 → ((p3 = 0 → Q (0 : Int32) w) ∧ (¬ p3 = 0 → Q (1 : Int32) w))))))
set_option maxRecDepth 20000 in
theorem con_X5_both {Γ : Gx} {d : Nat} (hG : GM Γ) {p1 : Int32} {p2 : Int32} {p3 : Int32}  {w : Wd} {Q : Int32 → Wd → Prop} (h : wp_X5_both Γ d p1 p2 p3 w Q) : CI Γ (d + 1) M_X5_both [.int p1, .int p2, .int p3] w Q := by
  have hC := hG.2
  refine Con.of RX5 cX5_both 3 (some .int) [some (.int p1), some (.int p2), some (.int p3)] rfl rfl (by decide +kernel) hG.1 (catI (catI (catI cat0))) (Nat.le_of_ble_eq_true rfl) rfl ?_
  intro X hO
  refine G_iload_n hO dX5_both_0 rfl rfl ?_
  by_cases e6 : p1 = (6 : Int32)
  · have h := h.1 e6
    refine G_tabIn (tgt := 40) (j := 0) hO dX5_both_1 (by decide) rfl (sweq e6 (by decide)) (by decide) ?_
    refine G_iload_n hO dX5_both_40 rfl rfl ?_
    refine G_iload_n hO dX5_both_41 rfl rfl ?_
    refine G_iadd hO dX5_both_42 ?_
    exact G_iret hO dX5_both_43 rfl rfl (QI.i h)
  · by_cases e7 : p1 = (7 : Int32)
    · have h := h.2.1 e7
      refine G_tabIn (tgt := 44) (j := 1) hO dX5_both_1 (by decide) rfl (sweq e7 (by decide)) (by decide) ?_
      refine G_iload_n hO dX5_both_44 rfl rfl ?_
      refine G_iload_n hO dX5_both_45 rfl rfl ?_
      refine G_isub hO dX5_both_46 ?_
      exact G_iret hO dX5_both_47 rfl rfl (QI.i h)
    · by_cases e8 : p1 = (8 : Int32)
      · have h := h.2.2.1 e8
        refine G_tabIn (tgt := 48) (j := 2) hO dX5_both_1 (by decide) rfl (sweq e8 (by decide)) (by decide) ?_
        refine G_iload_n hO dX5_both_48 rfl rfl ?_
        refine G_iload_n hO dX5_both_49 rfl rfl ?_
        refine G_imul hO dX5_both_50 ?_
        exact G_iret hO dX5_both_51 rfl rfl (QI.i h)
      · by_cases e9 : p1 = (9 : Int32)
        · have h := h.2.2.2.1 e9
          refine G_tabIn (tgt := 52) (j := 3) hO dX5_both_1 (by decide) rfl (sweq e9 (by decide)) (by decide) ?_
          refine G_iload_n hO dX5_both_52 rfl rfl ?_
          refine G_iload_n hO dX5_both_53 rfl rfl ?_
          refine G_icmp_ge (tgt := 61) hO dX5_both_54 (by decide) (fun c1 => ?_) (fun c1 => ?_)
          · have h := h.1 c1
            refine G_iconst (v := 0) hO dX5_both_61 rfl ?_
            exact G_iret hO dX5_both_62 rfl rfl (QI.i h)
          · have h := h.2 c1
            refine G_iconst (v := 1) hO dX5_both_57 rfl ?_
            refine G_goto (tgt := 62) hO dX5_both_58 (by decide) ?_
            exact G_iret hO dX5_both_62 rfl rfl (QI.i h)
        · by_cases e10 : p1 = (10 : Int32)
          · have h := h.2.2.2.2.1 e10
            refine G_tabIn (tgt := 63) (j := 4) hO dX5_both_1 (by decide) rfl (sweq e10 (by decide)) (by decide) ?_
            refine G_iload_n hO dX5_both_63 rfl rfl ?_
            refine G_iload_n hO dX5_both_64 rfl rfl ?_
            refine G_icmp_ne (tgt := 72) hO dX5_both_65 (by decide) (fun c2 => ?_) (fun c2 => ?_)
            · have h := h.1 c2
              refine G_iconst (v := 0) hO dX5_both_72 rfl ?_
              exact G_iret hO dX5_both_73 rfl rfl (QI.i h)
            · have h := h.2 c2
              refine G_iconst (v := 1) hO dX5_both_68 rfl ?_
              refine G_goto (tgt := 73) hO dX5_both_69 (by decide) ?_
              exact G_iret hO dX5_both_73 rfl rfl (QI.i h)
          · by_cases e11 : p1 = (11 : Int32)
            · have h := h.2.2.2.2.2.1 e11
              refine G_tabIn (tgt := 74) (j := 5) hO dX5_both_1 (by decide) rfl (sweq e11 (by decide)) (by decide) ?_
              refine G_iload_n hO dX5_both_74 rfl rfl ?_
              refine G_if_eq (tgt := 86) hO dX5_both_75 (by decide) (fun c3 => ?_) (fun c3 => ?_)
              · have h := h.1 c3
                refine G_iconst (v := 0) hO dX5_both_86 rfl ?_
                exact G_iret hO dX5_both_87 rfl rfl (QI.i h)
              · have h := h.2 c3
                refine G_iload_n hO dX5_both_78 rfl rfl ?_
                refine G_if_eq (tgt := 86) hO dX5_both_79 (by decide) (fun c4 => ?_) (fun c4 => ?_)
                · have h := h.1 c4
                  refine G_iconst (v := 0) hO dX5_both_86 rfl ?_
                  exact G_iret hO dX5_both_87 rfl rfl (QI.i h)
                · have h := h.2 c4
                  refine G_iconst (v := 1) hO dX5_both_82 rfl ?_
                  refine G_goto (tgt := 87) hO dX5_both_83 (by decide) ?_
                  exact G_iret hO dX5_both_87 rfl rfl (QI.i h)
            · have h := h.2.2.2.2.2.2 ⟨e6, e7, e8, e9, e10, e11⟩
              refine G_tabOut (tgt := 88) hO dX5_both_1 (by decide) (by decide) (fun j hj => ?_) ?_
              · rcases (show j = 0 ∨ j = 1 ∨ j = 2 ∨ j = 3 ∨ j = 4 ∨ j = 5 from by have : j < 6 := hj; omega) with rfl | rfl | rfl | rfl | rfl | rfl
                · exact swne e6 (by decide)
                · exact swne e7 (by decide)
                · exact swne e8 (by decide)
                · exact swne e9 (by decide)
                · exact swne e10 (by decide)
                · exact swne e11 (by decide)
              · refine G_iload_n hO dX5_both_88 rfl rfl ?_
                refine G_if_ne (tgt := 96) hO dX5_both_89 (by decide) (fun c5 => ?_) (fun c5 => ?_)
                · have h := h.1 c5
                  refine G_iconst (v := 1) hO dX5_both_96 rfl ?_
                  refine G_goto (tgt := 101) hO dX5_both_97 (by decide) ?_
                  exact G_iret hO dX5_both_101 rfl rfl (QI.i h)
                · have h := h.2 c5
                  refine G_iload_n hO dX5_both_92 rfl rfl ?_
                  refine G_if_eq (tgt := 100) hO dX5_both_93 (by decide) (fun c6 => ?_) (fun c6 => ?_)
                  · have h := h.1 c6
                    refine G_iconst (v := 0) hO dX5_both_100 rfl ?_
                    exact G_iret hO dX5_both_101 rfl rfl (QI.i h)
                  · have h := h.2 c6
                    refine G_iconst (v := 1) hO dX5_both_96 rfl ?_
                    refine G_goto (tgt := 101) hO dX5_both_97 (by decide) ?_
                    exact G_iret hO dX5_both_101 rfl rfl (QI.i h)
def wp_X5_tellsOf (Γ : Gx) (d : Nat) (p1 : Int32) (p2 : Int32) (p3 : Int32) (p4 : Int32) (p5 : Int32) (w : Wd) (Q : Wd → Prop) : Prop :=
  (∀ w1 : Wd, w1 = wset w 11 0 p1 → (vp_in p2 5 ∧ (∀ w4 : Wd, w4 = wset w1 11 1 (w1 4 (p2).toNatClampNeg) → (∀ w6 : Wd, w6 = wset w4 11 2 (w4 3 (p2).toNatClampNeg) → (vp_in p3 5 ∧ (∀ w9 : Wd, w9 = wset w6 11 3 (w6 4 (p3).toNatClampNeg) → (∀ w11 : Wd, w11 = wset w9 11 4 p4 → (∀ w13 : Wd, w13 = wset w11 11 5 p5 → Q w13))))))))
set_option maxRecDepth 20000 in
theorem con_X5_tellsOf {Γ : Gx} {d : Nat} (hG : GM Γ) {p1 : Int32} {p2 : Int32} {p3 : Int32} {p4 : Int32} {p5 : Int32}  {w : Wd} {Q : Wd → Prop} (h : wp_X5_tellsOf Γ d p1 p2 p3 p4 p5 w Q) : CV Γ (d + 1) M_X5_tellsOf [.ref (gad Γ 0), .int p1, .int p2, .int p3, .int p4, .int p5] w Q := by
  have hC := hG.2
  refine Con.of RX5 cX5_tellsOf 6 none [some (.ref (gad Γ 0)), some (.int p1), some (.int p2), some (.int p3), some (.int p4), some (.int p5)] rfl rfl (by decide +kernel) hG.1 (catR (catI (catI (catI (catI (catI cat0)))))) (Nat.le_of_ble_eq_true rfl) rfl ?_
  intro X hO
  refine G_aload_n hO dX5_tellsOf_0 rfl rfl ?_
  refine gr_X5_41 (c := 11) hO dX5_tellsOf_1 (ShM.c0 hC) rfl ?_
  refine G_iconst (v := 0) hO dX5_tellsOf_4 rfl ?_
  refine G_iload_n hO dX5_tellsOf_5 rfl rfl ?_
  refine G_iastore hO dX5_tellsOf_6 (ShM.c11 hC) (by unfold vp_in; decide) ?_
  refine GG.nmw (fun w1 e2 => ?_)
  have h := h w1 e2
  refine G_aload_n hO dX5_tellsOf_7 rfl rfl ?_
  refine gr_X5_41 (c := 11) hO dX5_tellsOf_8 (ShM.c0 hC) rfl ?_
  refine G_iconst (v := 1) hO dX5_tellsOf_11 rfl ?_
  refine G_aload_n hO dX5_tellsOf_12 rfl rfl ?_
  refine gr_X5_20 (c := 4) hO dX5_tellsOf_13 (ShM.c0 hC) rfl ?_
  refine G_iload_n hO dX5_tellsOf_16 rfl rfl ?_
  obtain ⟨c3, h⟩ := h
  refine G_iaload hO dX5_tellsOf_17 (ShM.c4 hC) c3 ?_
  refine GG.atpc (pc2 := 18) rfl ?_
  refine G_iastore hO dX5_tellsOf_18 (ShM.c11 hC) (by unfold vp_in; decide) ?_
  refine GG.nmw (fun w4 e5 => ?_)
  have h := h w4 e5
  refine G_aload_n hO dX5_tellsOf_19 rfl rfl ?_
  refine gr_X5_41 (c := 11) hO dX5_tellsOf_20 (ShM.c0 hC) rfl ?_
  refine G_iconst (v := 2) hO dX5_tellsOf_23 rfl ?_
  refine G_aload_n hO dX5_tellsOf_24 rfl rfl ?_
  refine gr_X5_17 (c := 3) hO dX5_tellsOf_25 (ShM.c0 hC) rfl ?_
  refine G_iload_n hO dX5_tellsOf_28 rfl rfl ?_
  refine G_iaload hO dX5_tellsOf_29 (ShM.c3 hC) c3 ?_
  refine G_iastore hO dX5_tellsOf_30 (ShM.c11 hC) (by unfold vp_in; decide) ?_
  refine GG.nmw (fun w6 e7 => ?_)
  have h := h w6 e7
  refine G_aload_n hO dX5_tellsOf_31 rfl rfl ?_
  refine gr_X5_41 (c := 11) hO dX5_tellsOf_32 (ShM.c0 hC) rfl ?_
  refine G_iconst (v := 3) hO dX5_tellsOf_35 rfl ?_
  refine GG.atpc (pc2 := 36) rfl ?_
  refine G_aload_n hO dX5_tellsOf_36 rfl rfl ?_
  refine gr_X5_20 (c := 4) hO dX5_tellsOf_37 (ShM.c0 hC) rfl ?_
  refine G_iload_n hO dX5_tellsOf_40 rfl rfl ?_
  obtain ⟨c8, h⟩ := h
  refine G_iaload hO dX5_tellsOf_41 (ShM.c4 hC) c8 ?_
  refine G_iastore hO dX5_tellsOf_42 (ShM.c11 hC) (by unfold vp_in; decide) ?_
  refine GG.nmw (fun w9 e10 => ?_)
  have h := h w9 e10
  refine G_aload_n hO dX5_tellsOf_43 rfl rfl ?_
  refine gr_X5_41 (c := 11) hO dX5_tellsOf_44 (ShM.c0 hC) rfl ?_
  refine G_iconst (v := 4) hO dX5_tellsOf_47 rfl ?_
  refine G_iload hO dX5_tellsOf_48 rfl ?_
  refine G_iastore hO dX5_tellsOf_50 (ShM.c11 hC) (by unfold vp_in; decide) ?_
  refine GG.nmw (fun w11 e12 => ?_)
  have h := h w11 e12
  refine G_aload_n hO dX5_tellsOf_51 rfl rfl ?_
  refine gr_X5_41 (c := 11) hO dX5_tellsOf_52 (ShM.c0 hC) rfl ?_
  refine GG.atpc (pc2 := 55) rfl ?_
  refine G_iconst (v := 5) hO dX5_tellsOf_55 rfl ?_
  refine G_iload hO dX5_tellsOf_56 rfl ?_
  refine G_iastore hO dX5_tellsOf_58 (ShM.c11 hC) (by unfold vp_in; decide) ?_
  refine GG.nmw (fun w13 e14 => ?_)
  have h := h w13 e14
  exact G_vret hO dX5_tellsOf_59 rfl (QV.i h)
def wp_X5_cuts (Γ : Gx) (d : Nat) (p1 : Int32) (p2 : Int32) (p3 : Int32) (w : Wd) (Q : Int32 → Wd → Prop) : Prop :=
  ∀ (P_22 : Int32 → Wd → Prop),
  ∀ (P_42 : Int32 → Wd → Prop),
  ∀ (P_65 : Int32 → Int32 → Int32 → Wd → Prop),
  (∀ (s0 : Int32) (w : Wd), ((¬ s0 = 0 → P_42 s0 w) ∧ (s0 = 0 → (vp_in p1 5 ∧ ((¬ p3 = ((w 3 (p1).toNatClampNeg) - ((w 3 (p1).toNatClampNeg) / (8 : Int32)) * (8 : Int32)) → ((s0 = 0 → P_65 s0 (0 : Int32) (0 : Int32) w) ∧ (¬ s0 = 0 → ((¬ (p3 - (p3 / (2 : Int32)) * (2 : Int32)) = 0 → P_65 s0 (0 : Int32) (0 : Int32) w) ∧ ((p3 - (p3 / (2 : Int32)) * (2 : Int32)) = 0 → P_65 s0 (0 : Int32) (1 : Int32) w))))) ∧ (p3 = ((w 3 (p1).toNatClampNeg) - ((w 3 (p1).toNatClampNeg) / (8 : Int32)) * (8 : Int32)) → P_42 s0 w))))) → P_22 s0 w) →
  (∀ (l4 : Int32) (w : Wd), ((l4 = 0 → P_65 l4 (1 : Int32) (0 : Int32) w) ∧ (¬ l4 = 0 → ((¬ (p3 - (p3 / (2 : Int32)) * (2 : Int32)) = 0 → P_65 l4 (1 : Int32) (0 : Int32) w) ∧ ((p3 - (p3 / (2 : Int32)) * (2 : Int32)) = 0 → P_65 l4 (1 : Int32) (1 : Int32) w)))) → P_42 l4 w) →
  (∀ (l4 : Int32) (l5 : Int32) (s0 : Int32) (w : Wd), (vp_in p1 5 ∧ ((((w 2 (p1).toNatClampNeg) = (1 : Int32)) → (isZ l5 ∧ Q l5 w)) ∧ (((w 2 (p1).toNatClampNeg) = (2 : Int32)) → (isZ s0 ∧ Q s0 w)) ∧ (((w 2 (p1).toNatClampNeg) = (3 : Int32)) → ((l5 = 0 → Q (0 : Int32) w) ∧ (¬ l5 = 0 → ((p3 = (7 : Int32) → Q (0 : Int32) w) ∧ (¬ p3 = (7 : Int32) → Q (1 : Int32) w))))) ∧ (((w 2 (p1).toNatClampNeg) = (4 : Int32)) → ((¬ s0 = 0 → Q (1 : Int32) w) ∧ (s0 = 0 → ((¬ p3 = (3 : Int32) → Q (0 : Int32) w) ∧ (p3 = (3 : Int32) → ((0 ≤ (w 4 (p1).toNatClampNeg) → Q (0 : Int32) w) ∧ (¬ 0 ≤ (w 4 (p1).toNatClampNeg) → Q (1 : Int32) w))))))) ∧ (((w 2 (p1).toNatClampNeg) = (5 : Int32)) → ((p3 < (3 : Int32) → Q (1 : Int32) w) ∧ (¬ p3 < (3 : Int32) → (((w 4 (p1).toNatClampNeg) < (10 : Int32) → Q (0 : Int32) w) ∧ (¬ (w 4 (p1).toNatClampNeg) < (10 : Int32) → Q (1 : Int32) w))))) ∧ ((¬ (w 2 (p1).toNatClampNeg) = (1 : Int32) ∧ ¬ (w 2 (p1).toNatClampNeg) = (2 : Int32) ∧ ¬ (w 2 (p1).toNatClampNeg) = (3 : Int32) ∧ ¬ (w 2 (p1).toNatClampNeg) = (4 : Int32) ∧ ¬ (w 2 (p1).toNatClampNeg) = (5 : Int32)) → (isZ l4 ∧ Q l4 w)))) → P_65 l4 l5 s0 w) →
  CV Γ d M_X5_tellsOf [.ref (gad Γ 0), .int p3, .int p1, .int p2, .int p1, .int p2] w (fun w2 => CI Γ d M_X5_ruled [.ref (gad Γ 0), .int (0 : Int32)] w2 (fun r3 w4 => ((r3 = 0 → P_22 (0 : Int32) w4) ∧ (¬ r3 = 0 → P_22 (1 : Int32) w4))))
set_option maxRecDepth 20000 in
theorem con_X5_cuts {Γ : Gx} {d : Nat} (hG : GM Γ) {p1 : Int32} {p2 : Int32} {p3 : Int32}  {w : Wd} {Q : Int32 → Wd → Prop} (h : wp_X5_cuts Γ d p1 p2 p3 w Q) : CI Γ (d + 1) M_X5_cuts [.ref (gad Γ 0), .int p1, .int p2, .int p3] w Q := by
  have hC := hG.2
  refine Con.of RX5 cX5_cuts 7 (some .boolean) [some (.ref (gad Γ 0)), some (.int p1), some (.int p2), some (.int p3), none, none, none] rfl rfl (by decide +kernel) hG.1 (catR (catI (catI (catI cat0)))) (Nat.le_of_ble_eq_true rfl) rfl ?_
  intro X hO
  have h := h
    (fun (s0 : Int32) (w : Wd) => GG Γ X (d + 1) 7 (QI Q) 22 [some (.ref (gad Γ 0)), some (.int p1), none, some (.int p3), none, none, none] [.int s0] w)
    (fun (l4 : Int32) (w : Wd) => GG Γ X (d + 1) 7 (QI Q) 42 [some (.ref (gad Γ 0)), some (.int p1), none, some (.int p3), some (.int l4), none, none] [] w)
    (fun (l4 : Int32) (l5 : Int32) (s0 : Int32) (w : Wd) => GG Γ X (d + 1) 7 (QI Q) 65 [some (.ref (gad Γ 0)), some (.int p1), none, some (.int p3), some (.int l4), some (.int l5), none] [.int s0] w)
    (by
        intro s0 w h
        refine G_istore (lv2 := [some (.ref (gad Γ 0)), some (.int p1), none, some (.int p3), some (.int s0), none, none]) hO dX5_cuts_22 (by decide) rfl rfl ?_
        refine G_iload hO dX5_cuts_24 rfl ?_
        refine G_if_ne (tgt := 42) hO dX5_cuts_26 (by decide) (fun c6 => ?_) (fun c6 => ?_)
        · have h := h.1 c6
          exact GG.sub (lv2 := [some (.ref (gad Γ 0)), some (.int p1), none, some (.int p3), some (.int s0), none, none]) ⟨rfl, ⟨rfl, ⟨rfl, ⟨rfl, trivial⟩⟩⟩⟩ h
        · have h := h.2 c6
          refine G_iload_n hO dX5_cuts_29 rfl rfl ?_
          refine G_aload_n hO dX5_cuts_30 rfl rfl ?_
          refine gr_X5_17 (c := 3) hO dX5_cuts_31 (ShM.c0 hC) rfl ?_
          refine G_iload_n hO dX5_cuts_34 rfl rfl ?_
          obtain ⟨c7, h⟩ := h
          refine G_iaload hO dX5_cuts_35 (ShM.c3 hC) c7 ?_
          refine G_bipush (v := 8) hO dX5_cuts_36 rfl ?_
          refine G_irem hO dX5_cuts_38 (by decide) ?_
          refine G_icmp_ne (tgt := 46) hO dX5_cuts_39 (by decide) (fun c8 => ?_) (fun c8 => ?_)
          · have h := h.1 c8
            refine G_iconst (v := 0) hO dX5_cuts_46 rfl ?_
            refine G_istore (lv2 := [some (.ref (gad Γ 0)), some (.int p1), none, some (.int p3), some (.int s0), some (.int (0 : Int32)), none]) hO dX5_cuts_47 (by decide) rfl rfl ?_
            refine G_iload hO dX5_cuts_49 rfl ?_
            refine G_if_eq (tgt := 64) hO dX5_cuts_51 (by decide) (fun c9 => ?_) (fun c9 => ?_)
            · have h := h.1 c9
              refine G_iconst (v := 0) hO dX5_cuts_64 rfl ?_
              exact GG.sub (lv2 := [some (.ref (gad Γ 0)), some (.int p1), none, some (.int p3), some (.int s0), some (.int (0 : Int32)), none]) ⟨rfl, ⟨rfl, ⟨rfl, ⟨rfl, ⟨rfl, trivial⟩⟩⟩⟩⟩ h
            · have h := h.2 c9
              refine G_iload_n hO dX5_cuts_54 rfl rfl ?_
              refine G_iconst (v := 2) hO dX5_cuts_55 rfl ?_
              refine G_irem hO dX5_cuts_56 (by decide) ?_
              refine G_if_ne (tgt := 64) hO dX5_cuts_57 (by decide) (fun c10 => ?_) (fun c10 => ?_)
              · have h := h.1 c10
                refine G_iconst (v := 0) hO dX5_cuts_64 rfl ?_
                exact GG.sub (lv2 := [some (.ref (gad Γ 0)), some (.int p1), none, some (.int p3), some (.int s0), some (.int (0 : Int32)), none]) ⟨rfl, ⟨rfl, ⟨rfl, ⟨rfl, ⟨rfl, trivial⟩⟩⟩⟩⟩ h
              · have h := h.2 c10
                refine G_iconst (v := 1) hO dX5_cuts_60 rfl ?_
                refine G_goto (tgt := 65) hO dX5_cuts_61 (by decide) ?_
                exact GG.sub (lv2 := [some (.ref (gad Γ 0)), some (.int p1), none, some (.int p3), some (.int s0), some (.int (0 : Int32)), none]) ⟨rfl, ⟨rfl, ⟨rfl, ⟨rfl, ⟨rfl, trivial⟩⟩⟩⟩⟩ h
          · have h := h.2 c8
            exact GG.sub (lv2 := [some (.ref (gad Γ 0)), some (.int p1), none, some (.int p3), some (.int s0), none, none]) ⟨rfl, ⟨rfl, ⟨rfl, ⟨rfl, trivial⟩⟩⟩⟩ h)
    (by
        intro l4 w h
        refine G_iconst (v := 1) hO dX5_cuts_42 rfl ?_
        refine G_goto (tgt := 47) hO dX5_cuts_43 (by decide) ?_
        refine G_istore (lv2 := [some (.ref (gad Γ 0)), some (.int p1), none, some (.int p3), some (.int l4), some (.int (1 : Int32)), none]) hO dX5_cuts_47 (by decide) rfl rfl ?_
        refine G_iload hO dX5_cuts_49 rfl ?_
        refine G_if_eq (tgt := 64) hO dX5_cuts_51 (by decide) (fun c11 => ?_) (fun c11 => ?_)
        · have h := h.1 c11
          refine G_iconst (v := 0) hO dX5_cuts_64 rfl ?_
          exact GG.sub (lv2 := [some (.ref (gad Γ 0)), some (.int p1), none, some (.int p3), some (.int l4), some (.int (1 : Int32)), none]) ⟨rfl, ⟨rfl, ⟨rfl, ⟨rfl, ⟨rfl, trivial⟩⟩⟩⟩⟩ h
        · have h := h.2 c11
          refine G_iload_n hO dX5_cuts_54 rfl rfl ?_
          refine G_iconst (v := 2) hO dX5_cuts_55 rfl ?_
          refine G_irem hO dX5_cuts_56 (by decide) ?_
          refine G_if_ne (tgt := 64) hO dX5_cuts_57 (by decide) (fun c12 => ?_) (fun c12 => ?_)
          · have h := h.1 c12
            refine G_iconst (v := 0) hO dX5_cuts_64 rfl ?_
            exact GG.sub (lv2 := [some (.ref (gad Γ 0)), some (.int p1), none, some (.int p3), some (.int l4), some (.int (1 : Int32)), none]) ⟨rfl, ⟨rfl, ⟨rfl, ⟨rfl, ⟨rfl, trivial⟩⟩⟩⟩⟩ h
          · have h := h.2 c12
            refine G_iconst (v := 1) hO dX5_cuts_60 rfl ?_
            refine G_goto (tgt := 65) hO dX5_cuts_61 (by decide) ?_
            exact GG.sub (lv2 := [some (.ref (gad Γ 0)), some (.int p1), none, some (.int p3), some (.int l4), some (.int (1 : Int32)), none]) ⟨rfl, ⟨rfl, ⟨rfl, ⟨rfl, ⟨rfl, trivial⟩⟩⟩⟩⟩ h)
    (by
        intro l4 l5 s0 w h
        refine G_istore (lv2 := [some (.ref (gad Γ 0)), some (.int p1), none, some (.int p3), some (.int l4), some (.int l5), some (.int s0)]) hO dX5_cuts_65 (by decide) rfl rfl ?_
        refine G_aload_n hO dX5_cuts_67 rfl rfl ?_
        refine gr_X5_13 (c := 2) hO dX5_cuts_68 (ShM.c0 hC) rfl ?_
        refine G_iload_n hO dX5_cuts_71 rfl rfl ?_
        obtain ⟨c13, h⟩ := h
        refine G_iaload hO dX5_cuts_72 (ShM.c2 hC) c13 ?_
        by_cases e1 : (w 2 (p1).toNatClampNeg) = (1 : Int32)
        · have h := h.1 e1
          refine G_tabIn (tgt := 108) (j := 0) hO dX5_cuts_73 (by decide) rfl (sweq e1 (by decide)) (by decide) ?_
          refine G_iload hO dX5_cuts_108 rfl ?_
          exact G_iret hO dX5_cuts_110 rfl h.1.nb (QI.i h.2)
        · by_cases e2 : (w 2 (p1).toNatClampNeg) = (2 : Int32)
          · have h := h.2.1 e2
            refine G_tabIn (tgt := 111) (j := 1) hO dX5_cuts_73 (by decide) rfl (sweq e2 (by decide)) (by decide) ?_
            refine G_iload hO dX5_cuts_111 rfl ?_
            exact G_iret hO dX5_cuts_113 rfl h.1.nb (QI.i h.2)
          · by_cases e3 : (w 2 (p1).toNatClampNeg) = (3 : Int32)
            · have h := h.2.2.1 e3
              refine G_tabIn (tgt := 114) (j := 2) hO dX5_cuts_73 (by decide) rfl (sweq e3 (by decide)) (by decide) ?_
              refine G_iload hO dX5_cuts_114 rfl ?_
              refine G_if_eq (tgt := 129) hO dX5_cuts_116 (by decide) (fun c14 => ?_) (fun c14 => ?_)
              · have h := h.1 c14
                refine G_iconst (v := 0) hO dX5_cuts_129 rfl ?_
                exact G_iret hO dX5_cuts_130 rfl rfl (QI.i h)
              · have h := h.2 c14
                refine G_iload_n hO dX5_cuts_119 rfl rfl ?_
                refine G_bipush (v := 7) hO dX5_cuts_120 rfl ?_
                refine G_icmp_eq (tgt := 129) hO dX5_cuts_122 (by decide) (fun c15 => ?_) (fun c15 => ?_)
                · have h := h.1 c15
                  refine G_iconst (v := 0) hO dX5_cuts_129 rfl ?_
                  exact G_iret hO dX5_cuts_130 rfl rfl (QI.i h)
                · have h := h.2 c15
                  refine G_iconst (v := 1) hO dX5_cuts_125 rfl ?_
                  refine G_goto (tgt := 130) hO dX5_cuts_126 (by decide) ?_
                  exact G_iret hO dX5_cuts_130 rfl rfl (QI.i h)
            · by_cases e4 : (w 2 (p1).toNatClampNeg) = (4 : Int32)
              · have h := h.2.2.2.1 e4
                refine G_tabIn (tgt := 131) (j := 3) hO dX5_cuts_73 (by decide) rfl (sweq e4 (by decide)) (by decide) ?_
                refine G_iload hO dX5_cuts_131 rfl ?_
                refine G_if_ne (tgt := 150) hO dX5_cuts_133 (by decide) (fun c16 => ?_) (fun c16 => ?_)
                · have h := h.1 c16
                  refine G_iconst (v := 1) hO dX5_cuts_150 rfl ?_
                  refine G_goto (tgt := 155) hO dX5_cuts_151 (by decide) ?_
                  exact G_iret hO dX5_cuts_155 rfl rfl (QI.i h)
                · have h := h.2 c16
                  refine G_iload_n hO dX5_cuts_136 rfl rfl ?_
                  refine G_iconst (v := 3) hO dX5_cuts_137 rfl ?_
                  refine G_icmp_ne (tgt := 154) hO dX5_cuts_138 (by decide) (fun c17 => ?_) (fun c17 => ?_)
                  · have h := h.1 c17
                    refine G_iconst (v := 0) hO dX5_cuts_154 rfl ?_
                    exact G_iret hO dX5_cuts_155 rfl rfl (QI.i h)
                  · have h := h.2 c17
                    refine G_aload_n hO dX5_cuts_141 rfl rfl ?_
                    refine gr_X5_20 (c := 4) hO dX5_cuts_142 (ShM.c0 hC) rfl ?_
                    refine G_iload_n hO dX5_cuts_145 rfl rfl ?_
                    refine G_iaload hO dX5_cuts_146 (ShM.c4 hC) c13 ?_
                    refine G_if_ge (tgt := 154) hO dX5_cuts_147 (by decide) (fun c18 => ?_) (fun c18 => ?_)
                    · have h := h.1 c18
                      refine G_iconst (v := 0) hO dX5_cuts_154 rfl ?_
                      exact G_iret hO dX5_cuts_155 rfl rfl (QI.i h)
                    · have h := h.2 c18
                      refine G_iconst (v := 1) hO dX5_cuts_150 rfl ?_
                      refine G_goto (tgt := 155) hO dX5_cuts_151 (by decide) ?_
                      exact G_iret hO dX5_cuts_155 rfl rfl (QI.i h)
              · by_cases e5 : (w 2 (p1).toNatClampNeg) = (5 : Int32)
                · have h := h.2.2.2.2.1 e5
                  refine G_tabIn (tgt := 156) (j := 4) hO dX5_cuts_73 (by decide) rfl (sweq e5 (by decide)) (by decide) ?_
                  refine G_iload_n hO dX5_cuts_156 rfl rfl ?_
                  refine G_iconst (v := 3) hO dX5_cuts_157 rfl ?_
                  refine G_icmp_lt (tgt := 172) hO dX5_cuts_158 (by decide) (fun c19 => ?_) (fun c19 => ?_)
                  · have h := h.1 c19
                    refine G_iconst (v := 1) hO dX5_cuts_172 rfl ?_
                    refine G_goto (tgt := 177) hO dX5_cuts_173 (by decide) ?_
                    exact G_iret hO dX5_cuts_177 rfl rfl (QI.i h)
                  · have h := h.2 c19
                    refine G_aload_n hO dX5_cuts_161 rfl rfl ?_
                    refine gr_X5_20 (c := 4) hO dX5_cuts_162 (ShM.c0 hC) rfl ?_
                    refine G_iload_n hO dX5_cuts_165 rfl rfl ?_
                    refine G_iaload hO dX5_cuts_166 (ShM.c4 hC) c13 ?_
                    refine G_bipush (v := 10) hO dX5_cuts_167 rfl ?_
                    refine G_icmp_lt (tgt := 176) hO dX5_cuts_169 (by decide) (fun c20 => ?_) (fun c20 => ?_)
                    · have h := h.1 c20
                      refine G_iconst (v := 0) hO dX5_cuts_176 rfl ?_
                      exact G_iret hO dX5_cuts_177 rfl rfl (QI.i h)
                    · have h := h.2 c20
                      refine G_iconst (v := 1) hO dX5_cuts_172 rfl ?_
                      refine G_goto (tgt := 177) hO dX5_cuts_173 (by decide) ?_
                      exact G_iret hO dX5_cuts_177 rfl rfl (QI.i h)
                · have h := h.2.2.2.2.2 ⟨e1, e2, e3, e4, e5⟩
                  refine G_tabOut (tgt := 178) hO dX5_cuts_73 (by decide) (by decide) (fun j hj => ?_) ?_
                  · rcases (show j = 0 ∨ j = 1 ∨ j = 2 ∨ j = 3 ∨ j = 4 from by have : j < 5 := hj; omega) with rfl | rfl | rfl | rfl | rfl
                    · exact swne e1 (by decide)
                    · exact swne e2 (by decide)
                    · exact swne e3 (by decide)
                    · exact swne e4 (by decide)
                    · exact swne e5 (by decide)
                  · refine G_iload hO dX5_cuts_178 rfl ?_
                    exact G_iret hO dX5_cuts_180 rfl h.1.nb (QI.i h.2))
  refine G_aload_n hO dX5_cuts_0 rfl rfl ?_
  refine G_iload_n hO dX5_cuts_1 rfl rfl ?_
  refine G_iload_n hO dX5_cuts_2 rfl rfl ?_
  refine G_iload_n hO dX5_cuts_3 rfl rfl ?_
  refine G_iload_n hO dX5_cuts_4 rfl rfl ?_
  refine G_iload_n hO dX5_cuts_5 rfl rfl ?_
  refine G_callVv hO dX5_cuts_6 h cl_X5_221 (ShM.c0 hC) rfl rfl (Nat.le_of_ble_eq_true rfl) (fun w2 h => ?_) rfl
  refine G_aload_n hO dX5_cuts_9 rfl rfl ?_
  refine G_iconst (v := 0) hO dX5_cuts_10 rfl ?_
  refine G_callVi hO dX5_cuts_11 h cl_X5_225 (ShM.c0 hC) rfl rfl (Nat.le_of_ble_eq_true rfl) (fun r3 w4 h => ?_) rfl
  refine G_if_eq (tgt := 21) hO dX5_cuts_14 (by decide) (fun c5 => ?_) (fun c5 => ?_)
  · have h := h.1 c5
    refine G_iconst (v := 0) hO dX5_cuts_21 rfl ?_
    exact GG.sub (lv2 := [some (.ref (gad Γ 0)), some (.int p1), none, some (.int p3), none, none, none]) ⟨rfl, ⟨rfl, ⟨rfl, trivial⟩⟩⟩ h
  · have h := h.2 c5
    refine G_iconst (v := 1) hO dX5_cuts_17 rfl ?_
    refine G_goto (tgt := 22) hO dX5_cuts_18 (by decide) ?_
    exact GG.sub (lv2 := [some (.ref (gad Γ 0)), some (.int p1), none, some (.int p3), none, none, none]) ⟨rfl, ⟨rfl, ⟨rfl, trivial⟩⟩⟩ h
def wp_X5_sends (Γ : Gx) (d : Nat) (p1 : Int32) (p2 : Int32) (w : Wd) (Q : Int32 → Wd → Prop) : Prop :=
  ∀ (P_40 : Int32 → Wd → Prop),
  (∀ (s0 : Int32) (w : Wd), (vp_in p1 5 ∧ ((((w 2 (p1).toNatClampNeg) = (1 : Int32) ∨ (w 2 (p1).toNatClampNeg) = (3 : Int32)) → Q (1 : Int32) w) ∧ (((w 2 (p1).toNatClampNeg) = (2 : Int32)) → ((s0 = 0 → Q (0 : Int32) w) ∧ (¬ s0 = 0 → (((w 4 (p1).toNatClampNeg) < (-5 : Int32) → Q (0 : Int32) w) ∧ (¬ (w 4 (p1).toNatClampNeg) < (-5 : Int32) → Q (1 : Int32) w))))) ∧ (((w 2 (p1).toNatClampNeg) = (4 : Int32)) → ((s0 = 0 → ((¬ p2 = (w 3 (p1).toNatClampNeg) → Q (0 : Int32) w) ∧ (p2 = (w 3 (p1).toNatClampNeg) → Q (1 : Int32) w))) ∧ (¬ s0 = 0 → (((-5 : Int32) ≤ (w 4 (p1).toNatClampNeg) → Q (1 : Int32) w) ∧ (¬ (-5 : Int32) ≤ (w 4 (p1).toNatClampNeg) → ((¬ p2 = (w 3 (p1).toNatClampNeg) → Q (0 : Int32) w) ∧ (p2 = (w 3 (p1).toNatClampNeg) → Q (1 : Int32) w))))))) ∧ ((¬ (w 2 (p1).toNatClampNeg) = (1 : Int32) ∧ ¬ (w 2 (p1).toNatClampNeg) = (2 : Int32) ∧ ¬ (w 2 (p1).toNatClampNeg) = (3 : Int32) ∧ ¬ (w 2 (p1).toNatClampNeg) = (4 : Int32)) → (isZ s0 ∧ Q s0 w)))) → P_40 s0 w) →
  ((p1 = (w 0 27) → Q (0 : Int32) w) ∧ (¬ p1 = (w 0 27) → ((¬ p2 = (w 0 27) → CV Γ d M_X5_tellsOf [.ref (gad Γ 0), .int (0 : Int32), .int p1, .int p2, .int p1, .int p2] w (fun w4 => CI Γ d M_X5_ruled [.ref (gad Γ 0), .int (2 : Int32)] w4 (fun r5 w6 => ((r5 = 0 → P_40 (0 : Int32) w6) ∧ (¬ r5 = 0 → P_40 (1 : Int32) w6))))) ∧ (p2 = (w 0 27) → Q (0 : Int32) w))))
set_option maxRecDepth 20000 in
theorem con_X5_sends {Γ : Gx} {d : Nat} (hG : GM Γ) {p1 : Int32} {p2 : Int32}  {w : Wd} {Q : Int32 → Wd → Prop} (h : wp_X5_sends Γ d p1 p2 w Q) : CI Γ (d + 1) M_X5_sends [.ref (gad Γ 0), .int p1, .int p2] w Q := by
  have hC := hG.2
  refine Con.of RX5 cX5_sends 4 (some .boolean) [some (.ref (gad Γ 0)), some (.int p1), some (.int p2), none] rfl rfl (by decide +kernel) hG.1 (catR (catI (catI cat0))) (Nat.le_of_ble_eq_true rfl) rfl ?_
  intro X hO
  have h := h
    (fun (s0 : Int32) (w : Wd) => GG Γ X (d + 1) 4 (QI Q) 40 [some (.ref (gad Γ 0)), some (.int p1), some (.int p2), none] [.int s0] w)
    (by
        intro s0 w h
        refine G_istore_n (lv2 := [some (.ref (gad Γ 0)), some (.int p1), some (.int p2), some (.int s0)]) hO dX5_sends_40 rfl (by decide) rfl rfl ?_
        refine G_aload_n hO dX5_sends_41 rfl rfl ?_
        refine gr_X5_13 (c := 2) hO dX5_sends_42 (ShM.c0 hC) rfl ?_
        refine G_iload_n hO dX5_sends_45 rfl rfl ?_
        obtain ⟨c8, h⟩ := h
        refine G_iaload hO dX5_sends_46 (ShM.c2 hC) c8 ?_
        by_cases e1 : (w 2 (p1).toNatClampNeg) = (1 : Int32)
        · have h := h.1 (Or.inl e1)
          refine G_tabIn (tgt := 76) (j := 0) hO dX5_sends_47 (by decide) rfl (sweq e1 (by decide)) (by decide) ?_
          refine G_iconst (v := 1) hO dX5_sends_76 rfl ?_
          exact G_iret hO dX5_sends_77 rfl rfl (QI.i h)
        · by_cases e2 : (w 2 (p1).toNatClampNeg) = (2 : Int32)
          · have h := h.2.1 e2
            refine G_tabIn (tgt := 78) (j := 1) hO dX5_sends_47 (by decide) rfl (sweq e2 (by decide)) (by decide) ?_
            refine G_iload_n hO dX5_sends_78 rfl rfl ?_
            refine G_if_eq (tgt := 97) hO dX5_sends_79 (by decide) (fun c9 => ?_) (fun c9 => ?_)
            · have h := h.1 c9
              refine G_iconst (v := 0) hO dX5_sends_97 rfl ?_
              exact G_iret hO dX5_sends_98 rfl rfl (QI.i h)
            · have h := h.2 c9
              refine G_aload_n hO dX5_sends_82 rfl rfl ?_
              refine gr_X5_20 (c := 4) hO dX5_sends_83 (ShM.c0 hC) rfl ?_
              refine G_iload_n hO dX5_sends_86 rfl rfl ?_
              refine G_iaload hO dX5_sends_87 (ShM.c4 hC) c8 ?_
              refine G_bipush (v := -5) hO dX5_sends_88 rfl ?_
              refine G_icmp_lt (tgt := 97) hO dX5_sends_90 (by decide) (fun c10 => ?_) (fun c10 => ?_)
              · have h := h.1 c10
                refine G_iconst (v := 0) hO dX5_sends_97 rfl ?_
                exact G_iret hO dX5_sends_98 rfl rfl (QI.i h)
              · have h := h.2 c10
                refine G_iconst (v := 1) hO dX5_sends_93 rfl ?_
                refine G_goto (tgt := 98) hO dX5_sends_94 (by decide) ?_
                exact G_iret hO dX5_sends_98 rfl rfl (QI.i h)
          · by_cases e3 : (w 2 (p1).toNatClampNeg) = (3 : Int32)
            · have h := h.1 (Or.inr e3)
              refine G_tabIn (tgt := 76) (j := 2) hO dX5_sends_47 (by decide) rfl (sweq e3 (by decide)) (by decide) ?_
              refine G_iconst (v := 1) hO dX5_sends_76 rfl ?_
              exact G_iret hO dX5_sends_77 rfl rfl (QI.i h)
            · by_cases e4 : (w 2 (p1).toNatClampNeg) = (4 : Int32)
              · have h := h.2.2.1 e4
                refine G_tabIn (tgt := 99) (j := 3) hO dX5_sends_47 (by decide) rfl (sweq e4 (by decide)) (by decide) ?_
                refine G_iload_n hO dX5_sends_99 rfl rfl ?_
                refine G_if_eq (tgt := 114) hO dX5_sends_100 (by decide) (fun c11 => ?_) (fun c11 => ?_)
                · have h := h.1 c11
                  refine G_iload_n hO dX5_sends_114 rfl rfl ?_
                  refine G_aload_n hO dX5_sends_115 rfl rfl ?_
                  refine gr_X5_17 (c := 3) hO dX5_sends_116 (ShM.c0 hC) rfl ?_
                  refine G_iload_n hO dX5_sends_119 rfl rfl ?_
                  refine G_iaload hO dX5_sends_120 (ShM.c3 hC) c8 ?_
                  refine G_icmp_ne (tgt := 128) hO dX5_sends_121 (by decide) (fun c12 => ?_) (fun c12 => ?_)
                  · have h := h.1 c12
                    refine G_iconst (v := 0) hO dX5_sends_128 rfl ?_
                    exact G_iret hO dX5_sends_129 rfl rfl (QI.i h)
                  · have h := h.2 c12
                    refine G_iconst (v := 1) hO dX5_sends_124 rfl ?_
                    refine G_goto (tgt := 129) hO dX5_sends_125 (by decide) ?_
                    exact G_iret hO dX5_sends_129 rfl rfl (QI.i h)
                · have h := h.2 c11
                  refine G_aload_n hO dX5_sends_103 rfl rfl ?_
                  refine gr_X5_20 (c := 4) hO dX5_sends_104 (ShM.c0 hC) rfl ?_
                  refine G_iload_n hO dX5_sends_107 rfl rfl ?_
                  refine G_iaload hO dX5_sends_108 (ShM.c4 hC) c8 ?_
                  refine G_bipush (v := -5) hO dX5_sends_109 rfl ?_
                  refine G_icmp_ge (tgt := 124) hO dX5_sends_111 (by decide) (fun c13 => ?_) (fun c13 => ?_)
                  · have h := h.1 c13
                    refine G_iconst (v := 1) hO dX5_sends_124 rfl ?_
                    refine G_goto (tgt := 129) hO dX5_sends_125 (by decide) ?_
                    exact G_iret hO dX5_sends_129 rfl rfl (QI.i h)
                  · have h := h.2 c13
                    refine G_iload_n hO dX5_sends_114 rfl rfl ?_
                    refine G_aload_n hO dX5_sends_115 rfl rfl ?_
                    refine gr_X5_17 (c := 3) hO dX5_sends_116 (ShM.c0 hC) rfl ?_
                    refine G_iload_n hO dX5_sends_119 rfl rfl ?_
                    refine G_iaload hO dX5_sends_120 (ShM.c3 hC) c8 ?_
                    refine G_icmp_ne (tgt := 128) hO dX5_sends_121 (by decide) (fun c14 => ?_) (fun c14 => ?_)
                    · have h := h.1 c14
                      refine G_iconst (v := 0) hO dX5_sends_128 rfl ?_
                      exact G_iret hO dX5_sends_129 rfl rfl (QI.i h)
                    · have h := h.2 c14
                      refine G_iconst (v := 1) hO dX5_sends_124 rfl ?_
                      refine G_goto (tgt := 129) hO dX5_sends_125 (by decide) ?_
                      exact G_iret hO dX5_sends_129 rfl rfl (QI.i h)
              · have h := h.2.2.2 ⟨e1, e2, e3, e4⟩
                refine G_tabOut (tgt := 130) hO dX5_sends_47 (by decide) (by decide) (fun j hj => ?_) ?_
                · rcases (show j = 0 ∨ j = 1 ∨ j = 2 ∨ j = 3 from by have : j < 4 := hj; omega) with rfl | rfl | rfl | rfl
                  · exact swne e1 (by decide)
                  · exact swne e2 (by decide)
                  · exact swne e3 (by decide)
                  · exact swne e4 (by decide)
                · refine G_iload_n hO dX5_sends_130 rfl rfl ?_
                  exact G_iret hO dX5_sends_131 rfl h.1.nb (QI.i h.2))
  refine G_iload_n hO dX5_sends_0 rfl rfl ?_
  refine G_aload_n hO dX5_sends_1 rfl rfl ?_
  refine gi_X5_68 hO dX5_sends_2 (ShM.c0 hC) rfl ?_
  refine G_icmp_eq (tgt := 16) hO dX5_sends_5 (by decide) (fun c1 => ?_) (fun c1 => ?_)
  · have h := h.1 c1
    refine G_iconst (v := 0) hO dX5_sends_16 rfl ?_
    exact G_iret hO dX5_sends_17 rfl rfl (QI.i h)
  · have h := h.2 c1
    refine G_iload_n hO dX5_sends_8 rfl rfl ?_
    refine G_aload_n hO dX5_sends_9 rfl rfl ?_
    refine gi_X5_68 hO dX5_sends_10 (ShM.c0 hC) rfl ?_
    refine G_icmp_ne (tgt := 18) hO dX5_sends_13 (by decide) (fun c2 => ?_) (fun c2 => ?_)
    · have h := h.1 c2
      refine G_aload_n hO dX5_sends_18 rfl rfl ?_
      refine G_iconst (v := 0) hO dX5_sends_19 rfl ?_
      refine G_iload_n hO dX5_sends_20 rfl rfl ?_
      refine G_iload_n hO dX5_sends_21 rfl rfl ?_
      refine G_iload_n hO dX5_sends_22 rfl rfl ?_
      refine G_iload_n hO dX5_sends_23 rfl rfl ?_
      refine G_callVv hO dX5_sends_24 h cl_X5_221 (ShM.c0 hC) rfl rfl (Nat.le_of_ble_eq_true rfl) (fun w4 h => ?_) rfl
      refine G_aload_n hO dX5_sends_27 rfl rfl ?_
      refine G_iconst (v := 2) hO dX5_sends_28 rfl ?_
      refine G_callVi hO dX5_sends_29 h cl_X5_225 (ShM.c0 hC) rfl rfl (Nat.le_of_ble_eq_true rfl) (fun r5 w6 h => ?_) rfl
      refine G_if_eq (tgt := 39) hO dX5_sends_32 (by decide) (fun c7 => ?_) (fun c7 => ?_)
      · have h := h.1 c7
        refine G_iconst (v := 0) hO dX5_sends_39 rfl ?_
        exact GG.sub (lv2 := [some (.ref (gad Γ 0)), some (.int p1), some (.int p2), none]) ⟨rfl, ⟨rfl, ⟨rfl, trivial⟩⟩⟩ h
      · have h := h.2 c7
        refine G_iconst (v := 1) hO dX5_sends_35 rfl ?_
        refine G_goto (tgt := 40) hO dX5_sends_36 (by decide) ?_
        exact GG.sub (lv2 := [some (.ref (gad Γ 0)), some (.int p1), some (.int p2), none]) ⟨rfl, ⟨rfl, ⟨rfl, trivial⟩⟩⟩ h
    · have h := h.2 c2
      refine G_iconst (v := 0) hO dX5_sends_16 rfl ?_
      exact G_iret hO dX5_sends_17 rfl rfl (QI.i h)
def wp_X5_feels (Γ : Gx) (d : Nat) (p1 : Int32) (p2 : Int32) (p3 : Int32) (w : Wd) (Q : Int32 → Wd → Prop) : Prop :=
  ∀ (P_31 : Int32 → Int32 → Wd → Prop),
  (∀ (l4 : Int32) (s0 : Int32) (w : Wd), (vp_in p2 5 ∧ ((((w 2 (p2).toNatClampNeg) = (1 : Int32)) → Q s0 w) ∧ (((w 2 (p2).toNatClampNeg) = (2 : Int32)) → CI Γ d M_X5_bound [.int ((2 : Int32) * l4)] w (fun r9 w10 => Q r9 w10)) ∧ (((w 2 (p2).toNatClampNeg) = (3 : Int32)) → CI Γ d M_X5_bound [.int (s0 + (1 : Int32))] w (fun r11 w12 => Q r11 w12)) ∧ (((w 2 (p2).toNatClampNeg) = (4 : Int32)) → CI Γ d M_X5_bound [.int ((((2 : Int32) * l4) / (2 : Int32)) - (w 3 (p2).toNatClampNeg))] w (fun r13 w14 => Q r13 w14)) ∧ (((w 2 (p2).toNatClampNeg) = (5 : Int32)) → ((p3 ≤ (3 : Int32) → Q l4 w) ∧ (¬ p3 ≤ (3 : Int32) → Q (0 : Int32) w))) ∧ ((¬ (w 2 (p2).toNatClampNeg) = (1 : Int32) ∧ ¬ (w 2 (p2).toNatClampNeg) = (2 : Int32) ∧ ¬ (w 2 (p2).toNatClampNeg) = (3 : Int32) ∧ ¬ (w 2 (p2).toNatClampNeg) = (4 : Int32) ∧ ¬ (w 2 (p2).toNatClampNeg) = (5 : Int32)) → Q l4 w))) → P_31 l4 s0 w) →
  CV Γ d M_X5_tellsOf [.ref (gad Γ 0), .int p3, .int p2, .int p1, .int p1, .int p2] w (fun w2 => CI Γ d M_X5_ruled [.ref (gad Γ 0), .int (1 : Int32)] w2 (fun r3 w4 => CI Γ d M_X5_bound [.int r3] w4 (fun r5 w6 => (((-1 : Int32) ≤ r5 → P_31 r5 r5 w6) ∧ (¬ (-1 : Int32) ≤ r5 → P_31 r5 (-1 : Int32) w6)))))
set_option maxRecDepth 20000 in
theorem con_X5_feels {Γ : Gx} {d : Nat} (hG : GM Γ) {p1 : Int32} {p2 : Int32} {p3 : Int32}  {w : Wd} {Q : Int32 → Wd → Prop} (h : wp_X5_feels Γ d p1 p2 p3 w Q) : CI Γ (d + 1) M_X5_feels [.ref (gad Γ 0), .int p1, .int p2, .int p3] w Q := by
  have hC := hG.2
  refine Con.of RX5 cX5_feels 6 (some .int) [some (.ref (gad Γ 0)), some (.int p1), some (.int p2), some (.int p3), none, none] rfl rfl (by decide +kernel) hG.1 (catR (catI (catI (catI cat0)))) (Nat.le_of_ble_eq_true rfl) rfl ?_
  intro X hO
  have h := h
    (fun (l4 : Int32) (s0 : Int32) (w : Wd) => GG Γ X (d + 1) 6 (QI Q) 31 [some (.ref (gad Γ 0)), none, some (.int p2), some (.int p3), some (.int l4), none] [.int s0] w)
    (by
        intro l4 s0 w h
        refine G_istore (lv2 := [some (.ref (gad Γ 0)), none, some (.int p2), some (.int p3), some (.int l4), some (.int s0)]) hO dX5_feels_31 (by decide) rfl rfl ?_
        refine G_aload_n hO dX5_feels_33 rfl rfl ?_
        refine gr_X5_13 (c := 2) hO dX5_feels_34 (ShM.c0 hC) rfl ?_
        refine G_iload_n hO dX5_feels_37 rfl rfl ?_
        obtain ⟨c8, h⟩ := h
        refine G_iaload hO dX5_feels_38 (ShM.c2 hC) c8 ?_
        by_cases e1 : (w 2 (p2).toNatClampNeg) = (1 : Int32)
        · have h := h.1 e1
          refine G_tabIn (tgt := 72) (j := 0) hO dX5_feels_39 (by decide) rfl (sweq e1 (by decide)) (by decide) ?_
          refine G_iload hO dX5_feels_72 rfl ?_
          exact G_iret hO dX5_feels_74 rfl rfl (QI.i h)
        · by_cases e2 : (w 2 (p2).toNatClampNeg) = (2 : Int32)
          · have h := h.2.1 e2
            refine G_tabIn (tgt := 75) (j := 1) hO dX5_feels_39 (by decide) rfl (sweq e2 (by decide)) (by decide) ?_
            refine G_iconst (v := 2) hO dX5_feels_75 rfl ?_
            refine G_iload hO dX5_feels_76 rfl ?_
            refine G_imul hO dX5_feels_78 ?_
            refine G_callSi hO dX5_feels_79 h cl_X5_123 rfl (Nat.le_of_ble_eq_true rfl) (fun r9 w10 h => ?_) rfl
            exact G_iret hO dX5_feels_82 rfl rfl (QI.i h)
          · by_cases e3 : (w 2 (p2).toNatClampNeg) = (3 : Int32)
            · have h := h.2.2.1 e3
              refine G_tabIn (tgt := 83) (j := 2) hO dX5_feels_39 (by decide) rfl (sweq e3 (by decide)) (by decide) ?_
              refine G_iload hO dX5_feels_83 rfl ?_
              refine G_iconst (v := 1) hO dX5_feels_85 rfl ?_
              refine G_iadd hO dX5_feels_86 ?_
              refine G_callSi hO dX5_feels_87 h cl_X5_123 rfl (Nat.le_of_ble_eq_true rfl) (fun r11 w12 h => ?_) rfl
              exact G_iret hO dX5_feels_90 rfl rfl (QI.i h)
            · by_cases e4 : (w 2 (p2).toNatClampNeg) = (4 : Int32)
              · have h := h.2.2.2.1 e4
                refine G_tabIn (tgt := 91) (j := 3) hO dX5_feels_39 (by decide) rfl (sweq e4 (by decide)) (by decide) ?_
                refine G_iconst (v := 2) hO dX5_feels_91 rfl ?_
                refine G_iload hO dX5_feels_92 rfl ?_
                refine G_imul hO dX5_feels_94 ?_
                refine G_iconst (v := 2) hO dX5_feels_95 rfl ?_
                refine G_idiv hO dX5_feels_96 (by decide) ?_
                refine G_aload_n hO dX5_feels_97 rfl rfl ?_
                refine gr_X5_17 (c := 3) hO dX5_feels_98 (ShM.c0 hC) rfl ?_
                refine G_iload_n hO dX5_feels_101 rfl rfl ?_
                refine G_iaload hO dX5_feels_102 (ShM.c3 hC) c8 ?_
                refine G_isub hO dX5_feels_103 ?_
                refine G_callSi hO dX5_feels_104 h cl_X5_123 rfl (Nat.le_of_ble_eq_true rfl) (fun r13 w14 h => ?_) rfl
                exact G_iret hO dX5_feels_107 rfl rfl (QI.i h)
              · by_cases e5 : (w 2 (p2).toNatClampNeg) = (5 : Int32)
                · have h := h.2.2.2.2.1 e5
                  refine G_tabIn (tgt := 108) (j := 4) hO dX5_feels_39 (by decide) rfl (sweq e5 (by decide)) (by decide) ?_
                  refine G_iload_n hO dX5_feels_108 rfl rfl ?_
                  refine G_iconst (v := 3) hO dX5_feels_109 rfl ?_
                  refine G_icmp_le (tgt := 117) hO dX5_feels_110 (by decide) (fun c15 => ?_) (fun c15 => ?_)
                  · have h := h.1 c15
                    refine G_iload hO dX5_feels_117 rfl ?_
                    exact G_iret hO dX5_feels_119 rfl rfl (QI.i h)
                  · have h := h.2 c15
                    refine G_iconst (v := 0) hO dX5_feels_113 rfl ?_
                    refine G_goto (tgt := 119) hO dX5_feels_114 (by decide) ?_
                    exact G_iret hO dX5_feels_119 rfl rfl (QI.i h)
                · have h := h.2.2.2.2.2 ⟨e1, e2, e3, e4, e5⟩
                  refine G_tabOut (tgt := 120) hO dX5_feels_39 (by decide) (by decide) (fun j hj => ?_) ?_
                  · rcases (show j = 0 ∨ j = 1 ∨ j = 2 ∨ j = 3 ∨ j = 4 from by have : j < 5 := hj; omega) with rfl | rfl | rfl | rfl | rfl
                    · exact swne e1 (by decide)
                    · exact swne e2 (by decide)
                    · exact swne e3 (by decide)
                    · exact swne e4 (by decide)
                    · exact swne e5 (by decide)
                  · refine G_iload hO dX5_feels_120 rfl ?_
                    exact G_iret hO dX5_feels_122 rfl rfl (QI.i h))
  refine G_aload_n hO dX5_feels_0 rfl rfl ?_
  refine G_iload_n hO dX5_feels_1 rfl rfl ?_
  refine G_iload_n hO dX5_feels_2 rfl rfl ?_
  refine G_iload_n hO dX5_feels_3 rfl rfl ?_
  refine G_iload_n hO dX5_feels_4 rfl rfl ?_
  refine G_iload_n hO dX5_feels_5 rfl rfl ?_
  refine G_callVv hO dX5_feels_6 h cl_X5_221 (ShM.c0 hC) rfl rfl (Nat.le_of_ble_eq_true rfl) (fun w2 h => ?_) rfl
  refine G_aload_n hO dX5_feels_9 rfl rfl ?_
  refine G_iconst (v := 1) hO dX5_feels_10 rfl ?_
  refine G_callVi hO dX5_feels_11 h cl_X5_225 (ShM.c0 hC) rfl rfl (Nat.le_of_ble_eq_true rfl) (fun r3 w4 h => ?_) rfl
  refine G_callSi hO dX5_feels_14 h cl_X5_123 rfl (Nat.le_of_ble_eq_true rfl) (fun r5 w6 h => ?_) rfl
  refine G_istore (lv2 := [some (.ref (gad Γ 0)), some (.int p1), some (.int p2), some (.int p3), some (.int r5), none]) hO dX5_feels_17 (by decide) rfl rfl ?_
  refine GG.atpc (pc2 := 19) rfl ?_
  refine G_iload hO dX5_feels_19 rfl ?_
  refine G_iconst (v := -1) hO dX5_feels_21 rfl ?_
  refine G_icmp_ge (tgt := 29) hO dX5_feels_22 (by decide) (fun c7 => ?_) (fun c7 => ?_)
  · have h := h.1 c7
    refine G_iload hO dX5_feels_29 rfl ?_
    exact GG.sub (lv2 := [some (.ref (gad Γ 0)), none, some (.int p2), some (.int p3), some (.int r5), none]) ⟨rfl, ⟨rfl, ⟨rfl, ⟨rfl, trivial⟩⟩⟩⟩ h
  · have h := h.2 c7
    refine G_iconst (v := -1) hO dX5_feels_25 rfl ?_
    refine G_goto (tgt := 31) hO dX5_feels_26 (by decide) ?_
    exact GG.sub (lv2 := [some (.ref (gad Γ 0)), none, some (.int p2), some (.int p3), some (.int r5), none]) ⟨rfl, ⟨rfl, ⟨rfl, ⟨rfl, trivial⟩⟩⟩⟩ h
def wp_X5_made (Γ : Gx) (d : Nat) (p1 : Int32) (p2 : Int32) (w : Wd) (Q : Int32 → Wd → Prop) : Prop :=
  ∀ (P_16 : Int32 → Int32 → Wd → Prop),
  (∀ (l3 : Int32) (l4 : Int32) (w : Wd), (((8 : Int32) ≤ l4 → Q l3 w) ∧ (¬ (8 : Int32) ≤ l4 → (vp_in l4 8 ∧ (((w 1 (l4).toNatClampNeg) = 0 → P_16 l3 (l4 + 1) w) ∧ (¬ (w 1 (l4).toNatClampNeg) = 0 → CI Γ d M_X5_cuts [.ref (gad Γ 0), .int p1, .int p2, .int l4] w (fun r7 w8 => ((r7 = 0 → P_16 l3 (l4 + 1) w8) ∧ (¬ r7 = 0 → P_16 (l3 ||| ((1 : Int32) <<< (l4 &&& 31))) (l4 + 1) w8)))))))) → P_16 l3 l4 w) →
  CI Γ d M_X5_sends [.ref (gad Γ 0), .int p1, .int p2] w (fun r1 w2 => ((¬ r1 = 0 → P_16 (0 : Int32) (0 : Int32) w2) ∧ (r1 = 0 → Q (0 : Int32) w2)))
set_option maxRecDepth 20000 in
theorem con_X5_made {Γ : Gx} {d : Nat} (hG : GM Γ) {p1 : Int32} {p2 : Int32}  {w : Wd} {Q : Int32 → Wd → Prop} (h : wp_X5_made Γ d p1 p2 w Q) : CI Γ (d + 1) M_X5_made [.ref (gad Γ 0), .int p1, .int p2] w Q := by
  have hC := hG.2
  refine Con.of RX5 cX5_made 5 (some .int) [some (.ref (gad Γ 0)), some (.int p1), some (.int p2), none, none] rfl rfl (by decide +kernel) hG.1 (catR (catI (catI cat0))) (Nat.le_of_ble_eq_true rfl) rfl ?_
  intro X hO
  have h := h
    (fun (l3 : Int32) (l4 : Int32) (w : Wd) => GG Γ X (d + 1) 5 (QI Q) 16 [some (.ref (gad Γ 0)), some (.int p1), some (.int p2), some (.int l3), some (.int l4)] [] w)
    (by
        intro l3 l4 w h
        refine G_iload hO dX5_made_16 rfl ?_
        refine G_bipush (v := 8) hO dX5_made_18 rfl ?_
        refine G_icmp_ge (tgt := 57) hO dX5_made_20 (by decide) (fun c4 => ?_) (fun c4 => ?_)
        · have h := h.1 c4
          refine G_iload_n hO dX5_made_57 rfl rfl ?_
          exact G_iret hO dX5_made_58 rfl rfl (QI.i h)
        · have h := h.2 c4
          refine G_aload_n hO dX5_made_23 rfl rfl ?_
          refine gr_X5_7 (c := 1) hO dX5_made_24 (ShM.c0 hC) rfl ?_
          refine G_iload hO dX5_made_27 rfl ?_
          obtain ⟨c5, h⟩ := h
          refine G_baload hO dX5_made_29 (ShM.c1 hC) c5 ?_
          refine G_if_eq (tgt := 51) hO dX5_made_30 (by decide) (fun c6 => ?_) (fun c6 => ?_)
          · have h := h.1 c6
            refine G_iinc (v := (l4 + 1)) (lv2 := [some (.ref (gad Γ 0)), some (.int p1), some (.int p2), some (.int l3), some (.int (l4 + 1))]) hO dX5_made_51 rfl rfl (by decide) rfl rfl ?_
            refine G_goto (tgt := 16) hO dX5_made_54 (by decide) ?_
            exact GG.sub (lv2 := [some (.ref (gad Γ 0)), some (.int p1), some (.int p2), some (.int l3), some (.int (l4 + 1))]) ⟨rfl, ⟨rfl, ⟨rfl, ⟨rfl, ⟨rfl, trivial⟩⟩⟩⟩⟩ h
          · have h := h.2 c6
            refine G_aload_n hO dX5_made_33 rfl rfl ?_
            refine G_iload_n hO dX5_made_34 rfl rfl ?_
            refine G_iload_n hO dX5_made_35 rfl rfl ?_
            refine G_iload hO dX5_made_36 rfl ?_
            refine G_callVi hO dX5_made_38 h cl_X5_231 (ShM.c0 hC) rfl rfl (Nat.le_of_ble_eq_true rfl) (fun r7 w8 h => ?_) rfl
            refine G_if_eq (tgt := 51) hO dX5_made_41 (by decide) (fun c9 => ?_) (fun c9 => ?_)
            · have h := h.1 c9
              refine G_iinc (v := (l4 + 1)) (lv2 := [some (.ref (gad Γ 0)), some (.int p1), some (.int p2), some (.int l3), some (.int (l4 + 1))]) hO dX5_made_51 rfl rfl (by decide) rfl rfl ?_
              refine G_goto (tgt := 16) hO dX5_made_54 (by decide) ?_
              exact GG.sub (lv2 := [some (.ref (gad Γ 0)), some (.int p1), some (.int p2), some (.int l3), some (.int (l4 + 1))]) ⟨rfl, ⟨rfl, ⟨rfl, ⟨rfl, ⟨rfl, trivial⟩⟩⟩⟩⟩ h
            · have h := h.2 c9
              refine G_iload_n hO dX5_made_44 rfl rfl ?_
              refine G_iconst (v := 1) hO dX5_made_45 rfl ?_
              refine G_iload hO dX5_made_46 rfl ?_
              refine G_ishl hO dX5_made_48 ?_
              refine G_ior hO dX5_made_49 ?_
              refine G_istore_n (lv2 := [some (.ref (gad Γ 0)), some (.int p1), some (.int p2), some (.int (l3 ||| ((1 : Int32) <<< (l4 &&& 31)))), some (.int l4)]) hO dX5_made_50 rfl (by decide) rfl rfl ?_
              refine G_iinc (v := (l4 + 1)) (lv2 := [some (.ref (gad Γ 0)), some (.int p1), some (.int p2), some (.int (l3 ||| ((1 : Int32) <<< (l4 &&& 31)))), some (.int (l4 + 1))]) hO dX5_made_51 rfl rfl (by decide) rfl rfl ?_
              refine G_goto (tgt := 16) hO dX5_made_54 (by decide) ?_
              exact GG.sub (lv2 := [some (.ref (gad Γ 0)), some (.int p1), some (.int p2), some (.int (l3 ||| ((1 : Int32) <<< (l4 &&& 31)))), some (.int (l4 + 1))]) ⟨rfl, ⟨rfl, ⟨rfl, ⟨rfl, ⟨rfl, trivial⟩⟩⟩⟩⟩ h)
  refine G_aload_n hO dX5_made_0 rfl rfl ?_
  refine G_iload_n hO dX5_made_1 rfl rfl ?_
  refine G_iload_n hO dX5_made_2 rfl rfl ?_
  refine G_callVi hO dX5_made_3 h cl_X5_228 (ShM.c0 hC) rfl rfl (Nat.le_of_ble_eq_true rfl) (fun r1 w2 h => ?_) rfl
  refine G_if_ne (tgt := 11) hO dX5_made_6 (by decide) (fun c3 => ?_) (fun c3 => ?_)
  · have h := h.1 c3
    refine G_iconst (v := 0) hO dX5_made_11 rfl ?_
    refine G_istore_n (lv2 := [some (.ref (gad Γ 0)), some (.int p1), some (.int p2), some (.int (0 : Int32)), none]) hO dX5_made_12 rfl (by decide) rfl rfl ?_
    refine G_iconst (v := 0) hO dX5_made_13 rfl ?_
    refine G_istore (lv2 := [some (.ref (gad Γ 0)), some (.int p1), some (.int p2), some (.int (0 : Int32)), some (.int (0 : Int32))]) hO dX5_made_14 (by decide) rfl rfl ?_
    exact GG.sub (lv2 := [some (.ref (gad Γ 0)), some (.int p1), some (.int p2), some (.int (0 : Int32)), some (.int (0 : Int32))]) ⟨rfl, ⟨rfl, ⟨rfl, ⟨rfl, ⟨rfl, trivial⟩⟩⟩⟩⟩ h
  · have h := h.2 c3
    refine G_iconst (v := 0) hO dX5_made_9 rfl ?_
    exact G_iret hO dX5_made_10 rfl rfl (QI.i h)
def wp_X5_feltBy (Γ : Gx) (d : Nat) (p1 : Int32) (p2 : Int32) (p3 : Int32) (w : Wd) (Q : Int32 → Wd → Prop) : Prop :=
  ∀ (P_6 : Int32 → Int32 → Wd → Prop),
  (∀ (l4 : Int32) (l5 : Int32) (w : Wd), (((8 : Int32) ≤ l5 → Q l4 w) ∧ (¬ (8 : Int32) ≤ l5 → ((¬ ((p3 >>> (l5 &&& 31)) &&& (1 : Int32)) = (1 : Int32) → P_6 l4 (l5 + 1) w) ∧ (((p3 >>> (l5 &&& 31)) &&& (1 : Int32)) = (1 : Int32) → CI Γ d M_X5_feels [.ref (gad Γ 0), .int p1, .int p2, .int l5] w (fun r3 w4 => P_6 (l4 + r3) (l5 + 1) w4))))) → P_6 l4 l5 w) →
  P_6 (0 : Int32) (0 : Int32) w
set_option maxRecDepth 20000 in
theorem con_X5_feltBy {Γ : Gx} {d : Nat} (hG : GM Γ) {p1 : Int32} {p2 : Int32} {p3 : Int32}  {w : Wd} {Q : Int32 → Wd → Prop} (h : wp_X5_feltBy Γ d p1 p2 p3 w Q) : CI Γ (d + 1) M_X5_feltBy [.ref (gad Γ 0), .int p1, .int p2, .int p3] w Q := by
  have hC := hG.2
  refine Con.of RX5 cX5_feltBy 6 (some .int) [some (.ref (gad Γ 0)), some (.int p1), some (.int p2), some (.int p3), none, none] rfl rfl (by decide +kernel) hG.1 (catR (catI (catI (catI cat0)))) (Nat.le_of_ble_eq_true rfl) rfl ?_
  intro X hO
  have h := h
    (fun (l4 : Int32) (l5 : Int32) (w : Wd) => GG Γ X (d + 1) 6 (QI Q) 6 [some (.ref (gad Γ 0)), some (.int p1), some (.int p2), some (.int p3), some (.int l4), some (.int l5)] [] w)
    (by
        intro l4 l5 w h
        refine G_iload hO dX5_feltBy_6 rfl ?_
        refine G_bipush (v := 8) hO dX5_feltBy_8 rfl ?_
        refine G_icmp_ge (tgt := 42) hO dX5_feltBy_10 (by decide) (fun c1 => ?_) (fun c1 => ?_)
        · have h := h.1 c1
          refine G_iload hO dX5_feltBy_42 rfl ?_
          exact G_iret hO dX5_feltBy_44 rfl rfl (QI.i h)
        · have h := h.2 c1
          refine G_iload_n hO dX5_feltBy_13 rfl rfl ?_
          refine G_iload hO dX5_feltBy_14 rfl ?_
          refine G_ishr hO dX5_feltBy_16 ?_
          refine G_iconst (v := 1) hO dX5_feltBy_17 rfl ?_
          refine G_iand hO dX5_feltBy_18 ?_
          refine G_iconst (v := 1) hO dX5_feltBy_19 rfl ?_
          refine G_icmp_ne (tgt := 36) hO dX5_feltBy_20 (by decide) (fun c2 => ?_) (fun c2 => ?_)
          · have h := h.1 c2
            refine G_iinc (v := (l5 + 1)) (lv2 := [some (.ref (gad Γ 0)), some (.int p1), some (.int p2), some (.int p3), some (.int l4), some (.int (l5 + 1))]) hO dX5_feltBy_36 rfl rfl (by decide) rfl rfl ?_
            refine G_goto (tgt := 6) hO dX5_feltBy_39 (by decide) ?_
            exact GG.sub (lv2 := [some (.ref (gad Γ 0)), some (.int p1), some (.int p2), some (.int p3), some (.int l4), some (.int (l5 + 1))]) ⟨rfl, ⟨rfl, ⟨rfl, ⟨rfl, ⟨rfl, ⟨rfl, trivial⟩⟩⟩⟩⟩⟩ h
          · have h := h.2 c2
            refine G_iload hO dX5_feltBy_23 rfl ?_
            refine G_aload_n hO dX5_feltBy_25 rfl rfl ?_
            refine G_iload_n hO dX5_feltBy_26 rfl rfl ?_
            refine G_iload_n hO dX5_feltBy_27 rfl rfl ?_
            refine G_iload hO dX5_feltBy_28 rfl ?_
            refine G_callVi hO dX5_feltBy_30 h cl_X5_234 (ShM.c0 hC) rfl rfl (Nat.le_of_ble_eq_true rfl) (fun r3 w4 h => ?_) rfl
            refine G_iadd hO dX5_feltBy_33 ?_
            refine G_istore (lv2 := [some (.ref (gad Γ 0)), some (.int p1), some (.int p2), some (.int p3), some (.int (l4 + r3)), some (.int l5)]) hO dX5_feltBy_34 (by decide) rfl rfl ?_
            refine G_iinc (v := (l5 + 1)) (lv2 := [some (.ref (gad Γ 0)), some (.int p1), some (.int p2), some (.int p3), some (.int (l4 + r3)), some (.int (l5 + 1))]) hO dX5_feltBy_36 rfl rfl (by decide) rfl rfl ?_
            refine G_goto (tgt := 6) hO dX5_feltBy_39 (by decide) ?_
            exact GG.sub (lv2 := [some (.ref (gad Γ 0)), some (.int p1), some (.int p2), some (.int p3), some (.int (l4 + r3)), some (.int (l5 + 1))]) ⟨rfl, ⟨rfl, ⟨rfl, ⟨rfl, ⟨rfl, ⟨rfl, trivial⟩⟩⟩⟩⟩⟩ h)
  refine G_iconst (v := 0) hO dX5_feltBy_0 rfl ?_
  refine G_istore (lv2 := [some (.ref (gad Γ 0)), some (.int p1), some (.int p2), some (.int p3), some (.int (0 : Int32)), none]) hO dX5_feltBy_1 (by decide) rfl rfl ?_
  refine G_iconst (v := 0) hO dX5_feltBy_3 rfl ?_
  refine G_istore (lv2 := [some (.ref (gad Γ 0)), some (.int p1), some (.int p2), some (.int p3), some (.int (0 : Int32)), some (.int (0 : Int32))]) hO dX5_feltBy_4 (by decide) rfl rfl ?_
  exact GG.sub (lv2 := [some (.ref (gad Γ 0)), some (.int p1), some (.int p2), some (.int p3), some (.int (0 : Int32)), some (.int (0 : Int32))]) ⟨rfl, ⟨rfl, ⟨rfl, ⟨rfl, ⟨rfl, ⟨rfl, trivial⟩⟩⟩⟩⟩⟩ h
def wp_X5_felt (Γ : Gx) (d : Nat) (p1 : Int32) (w : Wd) (Q : Int32 → Wd → Prop) : Prop :=
  ∀ (P_4 : Int32 → Int32 → Wd → Prop),
  (∀ (l2 : Int32) (l3 : Int32) (w : Wd), (((w 0 2) ≤ l3 → Q l2 w) ∧ (¬ (w 0 2) ≤ l3 → ((l3 = p1 → P_4 l2 (l3 + 1) w) ∧ (¬ l3 = p1 → CI Γ d M_X5_made [.ref (gad Γ 0), .int l3, .int p1] w (fun r3 w4 => CI Γ d M_X5_feltBy [.ref (gad Γ 0), .int l3, .int p1, .int r3] w4 (fun r5 w6 => P_4 (l2 + r5) (l3 + 1) w6)))))) → P_4 l2 l3 w) →
  P_4 (0 : Int32) (0 : Int32) w
set_option maxRecDepth 20000 in
theorem con_X5_felt {Γ : Gx} {d : Nat} (hG : GM Γ) {p1 : Int32}  {w : Wd} {Q : Int32 → Wd → Prop} (h : wp_X5_felt Γ d p1 w Q) : CI Γ (d + 1) M_X5_felt [.ref (gad Γ 0), .int p1] w Q := by
  have hC := hG.2
  refine Con.of RX5 cX5_felt 4 (some .int) [some (.ref (gad Γ 0)), some (.int p1), none, none] rfl rfl (by decide +kernel) hG.1 (catR (catI cat0)) (Nat.le_of_ble_eq_true rfl) rfl ?_
  intro X hO
  have h := h
    (fun (l2 : Int32) (l3 : Int32) (w : Wd) => GG Γ X (d + 1) 4 (QI Q) 4 [some (.ref (gad Γ 0)), some (.int p1), some (.int l2), some (.int l3)] [] w)
    (by
        intro l2 l3 w h
        refine G_iload_n hO dX5_felt_4 rfl rfl ?_
        refine G_aload_n hO dX5_felt_5 rfl rfl ?_
        refine gi_X5_79 hO dX5_felt_6 (ShM.c0 hC) rfl ?_
        refine G_icmp_ge (tgt := 38) hO dX5_felt_9 (by decide) (fun c1 => ?_) (fun c1 => ?_)
        · have h := h.1 c1
          refine G_iload_n hO dX5_felt_38 rfl rfl ?_
          exact G_iret hO dX5_felt_39 rfl rfl (QI.i h)
        · have h := h.2 c1
          refine G_iload_n hO dX5_felt_12 rfl rfl ?_
          refine G_iload_n hO dX5_felt_13 rfl rfl ?_
          refine G_icmp_eq (tgt := 32) hO dX5_felt_14 (by decide) (fun c2 => ?_) (fun c2 => ?_)
          · have h := h.1 c2
            refine G_iinc (v := (l3 + 1)) (lv2 := [some (.ref (gad Γ 0)), some (.int p1), some (.int l2), some (.int (l3 + 1))]) hO dX5_felt_32 rfl rfl (by decide) rfl rfl ?_
            refine G_goto (tgt := 4) hO dX5_felt_35 (by decide) ?_
            exact GG.sub (lv2 := [some (.ref (gad Γ 0)), some (.int p1), some (.int l2), some (.int (l3 + 1))]) ⟨rfl, ⟨rfl, ⟨rfl, ⟨rfl, trivial⟩⟩⟩⟩ h
          · have h := h.2 c2
            refine G_iload_n hO dX5_felt_17 rfl rfl ?_
            refine G_aload_n hO dX5_felt_18 rfl rfl ?_
            refine G_iload_n hO dX5_felt_19 rfl rfl ?_
            refine G_iload_n hO dX5_felt_20 rfl rfl ?_
            refine G_aload_n hO dX5_felt_21 rfl rfl ?_
            refine G_iload_n hO dX5_felt_22 rfl rfl ?_
            refine G_iload_n hO dX5_felt_23 rfl rfl ?_
            refine G_callVi hO dX5_felt_24 h cl_X5_107 (ShM.c0 hC) rfl rfl (Nat.le_of_ble_eq_true rfl) (fun r3 w4 h => ?_) rfl
            refine G_callVi hO dX5_felt_27 h cl_X5_237 (ShM.c0 hC) rfl rfl (Nat.le_of_ble_eq_true rfl) (fun r5 w6 h => ?_) rfl
            refine G_iadd hO dX5_felt_30 ?_
            refine G_istore_n (lv2 := [some (.ref (gad Γ 0)), some (.int p1), some (.int (l2 + r5)), some (.int l3)]) hO dX5_felt_31 rfl (by decide) rfl rfl ?_
            refine G_iinc (v := (l3 + 1)) (lv2 := [some (.ref (gad Γ 0)), some (.int p1), some (.int (l2 + r5)), some (.int (l3 + 1))]) hO dX5_felt_32 rfl rfl (by decide) rfl rfl ?_
            refine GG.atpc (pc2 := 35) rfl ?_
            refine G_goto (tgt := 4) hO dX5_felt_35 (by decide) ?_
            exact GG.sub (lv2 := [some (.ref (gad Γ 0)), some (.int p1), some (.int (l2 + r5)), some (.int (l3 + 1))]) ⟨rfl, ⟨rfl, ⟨rfl, ⟨rfl, trivial⟩⟩⟩⟩ h)
  refine G_iconst (v := 0) hO dX5_felt_0 rfl ?_
  refine G_istore_n (lv2 := [some (.ref (gad Γ 0)), some (.int p1), some (.int (0 : Int32)), none]) hO dX5_felt_1 rfl (by decide) rfl rfl ?_
  refine G_iconst (v := 0) hO dX5_felt_2 rfl ?_
  refine G_istore_n (lv2 := [some (.ref (gad Γ 0)), some (.int p1), some (.int (0 : Int32)), some (.int (0 : Int32))]) hO dX5_felt_3 rfl (by decide) rfl rfl ?_
  exact GG.sub (lv2 := [some (.ref (gad Γ 0)), some (.int p1), some (.int (0 : Int32)), some (.int (0 : Int32))]) ⟨rfl, ⟨rfl, ⟨rfl, ⟨rfl, trivial⟩⟩⟩⟩ h
def wp_X5_sandwich (Γ : Gx) (d : Nat) (p1 : Int32) (p2 : Int32) (p3 : Int32) (w : Wd) (Q : Int32 → Wd → Prop) : Prop :=
  CI Γ d M_X5_areTwo [.ref (gad Γ 0), .int p1, .int p2] w (fun r1 w2 => ((¬ r1 = 0 → CI Γ d M_X5_within [.int p3, .int (10 : Int32), .int (17 : Int32)] w2 (fun r4 w5 => ((r4 = 0 → CI Γ d M_X5_made [.ref (gad Γ 0), .int p1, .int p2] w5 (fun r7 w8 => (((p3 = (0 : Int32)) → Q r7 w8) ∧ ((p3 = (1 : Int32)) → CI Γ d M_X5_bitsOf [.int r7] w8 (fun r9 w10 => Q r9 w10)) ∧ ((p3 = (2 : Int32)) → CI Γ d M_X5_sends [.ref (gad Γ 0), .int p1, .int p2] w8 (fun r11 w12 => ((r11 = 0 → Q (0 : Int32) w12) ∧ (¬ r11 = 0 → Q (1 : Int32) w12)))) ∧ ((p3 = (3 : Int32)) → CI Γ d M_X5_feltBy [.ref (gad Γ 0), .int p1, .int p2, .int r7] w8 (fun r14 w15 => Q r14 w15)) ∧ ((¬ p3 = (0 : Int32) ∧ ¬ p3 = (1 : Int32) ∧ ¬ p3 = (2 : Int32) ∧ ¬ p3 = (3 : Int32)) → Q (-1000 : Int32) w8)))) ∧ (¬ r4 = 0 → CI Γ d M_X5_feels [.ref (gad Γ 0), .int p1, .int p2, .int (p3 - (10 : Int32))] w5 (fun r16 w17 => Q r16 w17))))) ∧ (r1 = 0 → Q (-1000 : Int32) w2)))
set_option maxRecDepth 20000 in
theorem con_X5_sandwich {Γ : Gx} {d : Nat} (hG : GM Γ) {p1 : Int32} {p2 : Int32} {p3 : Int32}  {w : Wd} {Q : Int32 → Wd → Prop} (h : wp_X5_sandwich Γ d p1 p2 p3 w Q) : CI Γ (d + 1) M_X5_sandwich [.ref (gad Γ 0), .int p1, .int p2, .int p3] w Q := by
  have hC := hG.2
  refine Con.of RX5 cX5_sandwich 5 (some .int) [some (.ref (gad Γ 0)), some (.int p1), some (.int p2), some (.int p3), none] rfl rfl (by decide +kernel) hG.1 (catR (catI (catI (catI cat0)))) (Nat.le_of_ble_eq_true rfl) rfl ?_
  intro X hO
  refine G_aload_n hO dX5_sandwich_0 rfl rfl ?_
  refine G_iload_n hO dX5_sandwich_1 rfl rfl ?_
  refine G_iload_n hO dX5_sandwich_2 rfl rfl ?_
  refine G_callVi hO dX5_sandwich_3 h cl_X5_240 (ShM.c0 hC) rfl rfl (Nat.le_of_ble_eq_true rfl) (fun r1 w2 h => ?_) rfl
  refine G_if_ne (tgt := 13) hO dX5_sandwich_6 (by decide) (fun c3 => ?_) (fun c3 => ?_)
  · have h := h.1 c3
    refine G_iload_n hO dX5_sandwich_13 rfl rfl ?_
    refine G_bipush (v := 10) hO dX5_sandwich_14 rfl ?_
    refine G_bipush (v := 17) hO dX5_sandwich_16 rfl ?_
    refine G_callSi hO dX5_sandwich_18 h cl_X5_82 rfl (Nat.le_of_ble_eq_true rfl) (fun r4 w5 h => ?_) rfl
    refine G_if_eq (tgt := 35) hO dX5_sandwich_21 (by decide) (fun c6 => ?_) (fun c6 => ?_)
    · have h := h.1 c6
      refine G_aload_n hO dX5_sandwich_35 rfl rfl ?_
      refine G_iload_n hO dX5_sandwich_36 rfl rfl ?_
      refine G_iload_n hO dX5_sandwich_37 rfl rfl ?_
      refine G_callVi hO dX5_sandwich_38 h cl_X5_107 (ShM.c0 hC) rfl rfl (Nat.le_of_ble_eq_true rfl) (fun r7 w8 h => ?_) rfl
      refine G_istore (lv2 := [some (.ref (gad Γ 0)), some (.int p1), some (.int p2), some (.int p3), some (.int r7)]) hO dX5_sandwich_41 (by decide) rfl rfl ?_
      refine G_iload_n hO dX5_sandwich_43 rfl rfl ?_
      by_cases e0 : p3 = (0 : Int32)
      · have h := h.1 e0
        refine G_tabIn (tgt := 76) (j := 0) hO dX5_sandwich_44 (by decide) rfl (sweq e0 (by decide)) (by decide) ?_
        refine G_iload hO dX5_sandwich_76 rfl ?_
        exact G_iret hO dX5_sandwich_78 rfl rfl (QI.i h)
      · by_cases e1 : p3 = (1 : Int32)
        · have h := h.2.1 e1
          refine G_tabIn (tgt := 79) (j := 1) hO dX5_sandwich_44 (by decide) rfl (sweq e1 (by decide)) (by decide) ?_
          refine G_iload hO dX5_sandwich_79 rfl ?_
          refine G_callSi hO dX5_sandwich_81 h cl_X5_110 rfl (Nat.le_of_ble_eq_true rfl) (fun r9 w10 h => ?_) rfl
          exact G_iret hO dX5_sandwich_84 rfl rfl (QI.i h)
        · by_cases e2 : p3 = (2 : Int32)
          · have h := h.2.2.1 e2
            refine G_tabIn (tgt := 85) (j := 2) hO dX5_sandwich_44 (by decide) rfl (sweq e2 (by decide)) (by decide) ?_
            refine G_aload_n hO dX5_sandwich_85 rfl rfl ?_
            refine G_iload_n hO dX5_sandwich_86 rfl rfl ?_
            refine G_iload_n hO dX5_sandwich_87 rfl rfl ?_
            refine G_callVi hO dX5_sandwich_88 h cl_X5_228 (ShM.c0 hC) rfl rfl (Nat.le_of_ble_eq_true rfl) (fun r11 w12 h => ?_) rfl
            refine G_if_eq (tgt := 98) hO dX5_sandwich_91 (by decide) (fun c13 => ?_) (fun c13 => ?_)
            · have h := h.1 c13
              refine G_iconst (v := 0) hO dX5_sandwich_98 rfl ?_
              exact G_iret hO dX5_sandwich_99 rfl rfl (QI.i h)
            · have h := h.2 c13
              refine G_iconst (v := 1) hO dX5_sandwich_94 rfl ?_
              refine G_goto (tgt := 99) hO dX5_sandwich_95 (by decide) ?_
              exact G_iret hO dX5_sandwich_99 rfl rfl (QI.i h)
          · by_cases e3 : p3 = (3 : Int32)
            · have h := h.2.2.2.1 e3
              refine G_tabIn (tgt := 100) (j := 3) hO dX5_sandwich_44 (by decide) rfl (sweq e3 (by decide)) (by decide) ?_
              refine G_aload_n hO dX5_sandwich_100 rfl rfl ?_
              refine G_iload_n hO dX5_sandwich_101 rfl rfl ?_
              refine G_iload_n hO dX5_sandwich_102 rfl rfl ?_
              refine G_iload hO dX5_sandwich_103 rfl ?_
              refine G_callVi hO dX5_sandwich_105 h cl_X5_237 (ShM.c0 hC) rfl rfl (Nat.le_of_ble_eq_true rfl) (fun r14 w15 h => ?_) rfl
              exact G_iret hO dX5_sandwich_108 rfl rfl (QI.i h)
            · have h := h.2.2.2.2 ⟨e0, e1, e2, e3⟩
              refine G_tabOut (tgt := 109) hO dX5_sandwich_44 (by decide) (by decide) (fun j hj => ?_) ?_
              · rcases (show j = 0 ∨ j = 1 ∨ j = 2 ∨ j = 3 from by have : j < 4 := hj; omega) with rfl | rfl | rfl | rfl
                · exact swne e0 (by decide)
                · exact swne e1 (by decide)
                · exact swne e2 (by decide)
                · exact swne e3 (by decide)
              · refine G_sipush (v := -1000) hO dX5_sandwich_109 rfl ?_
                exact G_iret hO dX5_sandwich_112 rfl rfl (QI.i h)
    · have h := h.2 c6
      refine G_aload_n hO dX5_sandwich_24 rfl rfl ?_
      refine G_iload_n hO dX5_sandwich_25 rfl rfl ?_
      refine G_iload_n hO dX5_sandwich_26 rfl rfl ?_
      refine G_iload_n hO dX5_sandwich_27 rfl rfl ?_
      refine G_bipush (v := 10) hO dX5_sandwich_28 rfl ?_
      refine G_isub hO dX5_sandwich_30 ?_
      refine G_callVi hO dX5_sandwich_31 h cl_X5_234 (ShM.c0 hC) rfl rfl (Nat.le_of_ble_eq_true rfl) (fun r16 w17 h => ?_) rfl
      exact G_iret hO dX5_sandwich_34 rfl rfl (QI.i h)
  · have h := h.2 c3
    refine G_sipush (v := -1000) hO dX5_sandwich_9 rfl ?_
    exact G_iret hO dX5_sandwich_12 rfl rfl (QI.i h)
def wp_X5_glad (Γ : Gx) (d : Nat)  (w : Wd) (Q : Int32 → Wd → Prop) : Prop :=
  ∀ (P_4 : Int32 → Int32 → Wd → Prop),
  (∀ (l1 : Int32) (l2 : Int32) (w : Wd), (((w 0 2) ≤ l2 → Q l1 w) ∧ (¬ (w 0 2) ≤ l2 → (vp_in l2 5 ∧ P_4 (l1 + (w 4 (l2).toNatClampNeg)) (l2 + 1) w))) → P_4 l1 l2 w) →
  P_4 (0 : Int32) (0 : Int32) w
set_option maxRecDepth 20000 in
theorem con_X5_glad {Γ : Gx} {d : Nat} (hG : GM Γ)   {w : Wd} {Q : Int32 → Wd → Prop} (h : wp_X5_glad Γ d  w Q) : CI Γ (d + 1) M_X5_glad [.ref (gad Γ 0)] w Q := by
  have hC := hG.2
  refine Con.of RX5 cX5_glad 3 (some .int) [some (.ref (gad Γ 0)), none, none] rfl rfl (by decide +kernel) hG.1 (catR cat0) (Nat.le_of_ble_eq_true rfl) rfl ?_
  intro X hO
  have h := h
    (fun (l1 : Int32) (l2 : Int32) (w : Wd) => GG Γ X (d + 1) 3 (QI Q) 4 [some (.ref (gad Γ 0)), some (.int l1), some (.int l2)] [] w)
    (by
        intro l1 l2 w h
        refine G_iload_n hO dX5_glad_4 rfl rfl ?_
        refine G_aload_n hO dX5_glad_5 rfl rfl ?_
        refine gi_X5_79 hO dX5_glad_6 (ShM.c0 hC) rfl ?_
        refine G_icmp_ge (tgt := 27) hO dX5_glad_9 (by decide) (fun c1 => ?_) (fun c1 => ?_)
        · have h := h.1 c1
          refine G_iload_n hO dX5_glad_27 rfl rfl ?_
          exact G_iret hO dX5_glad_28 rfl rfl (QI.i h)
        · have h := h.2 c1
          refine G_iload_n hO dX5_glad_12 rfl rfl ?_
          refine G_aload_n hO dX5_glad_13 rfl rfl ?_
          refine gr_X5_20 (c := 4) hO dX5_glad_14 (ShM.c0 hC) rfl ?_
          refine G_iload_n hO dX5_glad_17 rfl rfl ?_
          obtain ⟨c2, h⟩ := h
          refine G_iaload hO dX5_glad_18 (ShM.c4 hC) c2 ?_
          refine G_iadd hO dX5_glad_19 ?_
          refine G_istore_n (lv2 := [some (.ref (gad Γ 0)), some (.int (l1 + (w 4 (l2).toNatClampNeg))), some (.int l2)]) hO dX5_glad_20 rfl (by decide) rfl rfl ?_
          refine G_iinc (v := (l2 + 1)) (lv2 := [some (.ref (gad Γ 0)), some (.int (l1 + (w 4 (l2).toNatClampNeg))), some (.int (l2 + 1))]) hO dX5_glad_21 rfl rfl (by decide) rfl rfl ?_
          refine G_goto (tgt := 4) hO dX5_glad_24 (by decide) ?_
          exact GG.sub (lv2 := [some (.ref (gad Γ 0)), some (.int (l1 + (w 4 (l2).toNatClampNeg))), some (.int (l2 + 1))]) ⟨rfl, ⟨rfl, ⟨rfl, trivial⟩⟩⟩ h)
  refine G_iconst (v := 0) hO dX5_glad_0 rfl ?_
  refine G_istore_n (lv2 := [some (.ref (gad Γ 0)), some (.int (0 : Int32)), none]) hO dX5_glad_1 rfl (by decide) rfl rfl ?_
  refine G_iconst (v := 0) hO dX5_glad_2 rfl ?_
  refine G_istore_n (lv2 := [some (.ref (gad Γ 0)), some (.int (0 : Int32)), some (.int (0 : Int32))]) hO dX5_glad_3 rfl (by decide) rfl rfl ?_
  exact GG.sub (lv2 := [some (.ref (gad Γ 0)), some (.int (0 : Int32)), some (.int (0 : Int32))]) ⟨rfl, ⟨rfl, ⟨rfl, trivial⟩⟩⟩ h
def wp_X5_passes (Γ : Gx) (d : Nat)  (w : Wd) (Q : Wd → Prop) : Prop :=
  ∀ (P_2 : Int32 → Wd → Prop),
  ∀ (P_33 : Int32 → Int32 → Wd → Prop),
  ∀ (P_79 : Int32 → Wd → Prop),
  (∀ (l1 : Int32) (w : Wd), (((w 0 2) ≤ l1 → P_79 (0 : Int32) w) ∧ (¬ (w 0 2) ≤ l1 → (vp_in l1 5 ∧ CI Γ d M_X5_felt [.ref (gad Γ 0), .int l1] w (fun r3 w4 => CI Γ d M_X5_bound [.int ((w 4 (l1).toNatClampNeg) + r3)] w4 (fun r5 w6 => (∀ w7 : Wd, w7 = wset w6 12 (l1).toNatClampNeg r5 → P_33 l1 (0 : Int32) w7)))))) → P_2 l1 w) →
  (∀ (l1 : Int32) (l2 : Int32) (w : Wd), (((w 0 2) ≤ l2 → P_2 (l1 + 1) w) ∧ (¬ (w 0 2) ≤ l2 → ((l1 = l2 → P_33 l1 (l2 + 1) w) ∧ (¬ l1 = l2 → CI Γ d M_X5_made [.ref (gad Γ 0), .int l1, .int l2] w (fun r11 w12 => ((¬ r11 = 0 → P_33 l1 (l2 + 1) w12) ∧ (r11 = 0 → (∀ w14 : Wd, w14 = wset w12 0 30 ((w12 0 30) + (1 : Int32)) → P_33 l1 (l2 + 1) w14)))))))) → P_33 l1 l2 w) →
  (∀ (l1 : Int32) (w : Wd), (((w 0 2) ≤ l1 → Q w) ∧ (¬ (w 0 2) ≤ l1 → (vp_in l1 5 ∧ (∀ w18 : Wd, w18 = wset w 4 (l1).toNatClampNeg (w 12 (l1).toNatClampNeg) → P_79 (l1 + 1) w18)))) → P_79 l1 w) →
  P_2 (0 : Int32) w
set_option maxRecDepth 20000 in
theorem con_X5_passes {Γ : Gx} {d : Nat} (hG : GM Γ)   {w : Wd} {Q : Wd → Prop} (h : wp_X5_passes Γ d  w Q) : CV Γ (d + 1) M_X5_passes [.ref (gad Γ 0)] w Q := by
  have hC := hG.2
  refine Con.of RX5 cX5_passes 3 none [some (.ref (gad Γ 0)), none, none] rfl rfl (by decide +kernel) hG.1 (catR cat0) (Nat.le_of_ble_eq_true rfl) rfl ?_
  intro X hO
  have h := h
    (fun (l1 : Int32) (w : Wd) => GG Γ X (d + 1) 3 (QV Q) 2 [some (.ref (gad Γ 0)), some (.int l1), none] [] w)
    (fun (l1 : Int32) (l2 : Int32) (w : Wd) => GG Γ X (d + 1) 3 (QV Q) 33 [some (.ref (gad Γ 0)), some (.int l1), some (.int l2)] [] w)
    (fun (l1 : Int32) (w : Wd) => GG Γ X (d + 1) 3 (QV Q) 79 [some (.ref (gad Γ 0)), some (.int l1), none] [] w)
    (by
        intro l1 w h
        refine G_iload_n hO dX5_passes_2 rfl rfl ?_
        refine G_aload_n hO dX5_passes_3 rfl rfl ?_
        refine gi_X5_79 hO dX5_passes_4 (ShM.c0 hC) rfl ?_
        refine G_icmp_ge (tgt := 77) hO dX5_passes_7 (by decide) (fun c1 => ?_) (fun c1 => ?_)
        · have h := h.1 c1
          refine G_iconst (v := 0) hO dX5_passes_77 rfl ?_
          refine G_istore_n (lv2 := [some (.ref (gad Γ 0)), some (.int (0 : Int32)), none]) hO dX5_passes_78 rfl (by decide) rfl rfl ?_
          exact GG.sub (lv2 := [some (.ref (gad Γ 0)), some (.int (0 : Int32)), none]) ⟨rfl, ⟨rfl, trivial⟩⟩ h
        · have h := h.2 c1
          refine G_aload_n hO dX5_passes_10 rfl rfl ?_
          refine gr_X5_44 (c := 12) hO dX5_passes_11 (ShM.c0 hC) rfl ?_
          refine G_iload_n hO dX5_passes_14 rfl rfl ?_
          refine G_aload_n hO dX5_passes_15 rfl rfl ?_
          refine gr_X5_20 (c := 4) hO dX5_passes_16 (ShM.c0 hC) rfl ?_
          refine G_iload_n hO dX5_passes_19 rfl rfl ?_
          obtain ⟨c2, h⟩ := h
          refine G_iaload hO dX5_passes_20 (ShM.c4 hC) c2 ?_
          refine G_aload_n hO dX5_passes_21 rfl rfl ?_
          refine G_iload_n hO dX5_passes_22 rfl rfl ?_
          refine G_callVi hO dX5_passes_23 h cl_X5_120 (ShM.c0 hC) rfl rfl (Nat.le_of_ble_eq_true rfl) (fun r3 w4 h => ?_) rfl
          refine G_iadd hO dX5_passes_26 ?_
          refine G_callSi hO dX5_passes_27 h cl_X5_123 rfl (Nat.le_of_ble_eq_true rfl) (fun r5 w6 h => ?_) rfl
          refine GG.atpc (pc2 := 30) rfl ?_
          refine G_iastore hO dX5_passes_30 (ShM.c12 hC) c2 ?_
          refine GG.nmw (fun w7 e8 => ?_)
          have h := h w7 e8
          refine G_iconst (v := 0) hO dX5_passes_31 rfl ?_
          refine G_istore_n (lv2 := [some (.ref (gad Γ 0)), some (.int l1), some (.int (0 : Int32))]) hO dX5_passes_32 rfl (by decide) rfl rfl ?_
          exact GG.sub (lv2 := [some (.ref (gad Γ 0)), some (.int l1), some (.int (0 : Int32))]) ⟨rfl, ⟨rfl, ⟨rfl, trivial⟩⟩⟩ h)
    (by
        intro l1 l2 w h
        refine G_iload_n hO dX5_passes_33 rfl rfl ?_
        refine G_aload_n hO dX5_passes_34 rfl rfl ?_
        refine gi_X5_79 hO dX5_passes_35 (ShM.c0 hC) rfl ?_
        refine G_icmp_ge (tgt := 71) hO dX5_passes_38 (by decide) (fun c9 => ?_) (fun c9 => ?_)
        · have h := h.1 c9
          refine G_iinc (v := (l1 + 1)) (lv2 := [some (.ref (gad Γ 0)), some (.int (l1 + 1)), some (.int l2)]) hO dX5_passes_71 rfl rfl (by decide) rfl rfl ?_
          refine G_goto (tgt := 2) hO dX5_passes_74 (by decide) ?_
          exact GG.sub (lv2 := [some (.ref (gad Γ 0)), some (.int (l1 + 1)), none]) ⟨rfl, ⟨rfl, trivial⟩⟩ h
        · have h := h.2 c9
          refine G_iload_n hO dX5_passes_41 rfl rfl ?_
          refine G_iload_n hO dX5_passes_42 rfl rfl ?_
          refine G_icmp_eq (tgt := 65) hO dX5_passes_43 (by decide) (fun c10 => ?_) (fun c10 => ?_)
          · have h := h.1 c10
            refine G_iinc (v := (l2 + 1)) (lv2 := [some (.ref (gad Γ 0)), some (.int l1), some (.int (l2 + 1))]) hO dX5_passes_65 rfl rfl (by decide) rfl rfl ?_
            refine G_goto (tgt := 33) hO dX5_passes_68 (by decide) ?_
            exact GG.sub (lv2 := [some (.ref (gad Γ 0)), some (.int l1), some (.int (l2 + 1))]) ⟨rfl, ⟨rfl, ⟨rfl, trivial⟩⟩⟩ h
          · have h := h.2 c10
            refine G_aload_n hO dX5_passes_46 rfl rfl ?_
            refine G_iload_n hO dX5_passes_47 rfl rfl ?_
            refine G_iload_n hO dX5_passes_48 rfl rfl ?_
            refine G_callVi hO dX5_passes_49 h cl_X5_107 (ShM.c0 hC) rfl rfl (Nat.le_of_ble_eq_true rfl) (fun r11 w12 h => ?_) rfl
            refine G_if_ne (tgt := 65) hO dX5_passes_52 (by decide) (fun c13 => ?_) (fun c13 => ?_)
            · have h := h.1 c13
              refine G_iinc (v := (l2 + 1)) (lv2 := [some (.ref (gad Γ 0)), some (.int l1), some (.int (l2 + 1))]) hO dX5_passes_65 rfl rfl (by decide) rfl rfl ?_
              refine G_goto (tgt := 33) hO dX5_passes_68 (by decide) ?_
              exact GG.sub (lv2 := [some (.ref (gad Γ 0)), some (.int l1), some (.int (l2 + 1))]) ⟨rfl, ⟨rfl, ⟨rfl, trivial⟩⟩⟩ h
            · have h := h.2 c13
              refine G_aload_n hO dX5_passes_55 rfl rfl ?_
              refine G_dup hO dX5_passes_56 rfl ?_
              refine gi_X5_243 hO dX5_passes_57 (ShM.c0 hC) rfl ?_
              refine G_iconst (v := 1) hO dX5_passes_60 rfl ?_
              refine G_iadd hO dX5_passes_61 ?_
              refine pi_X5_243 hO dX5_passes_62 (ShM.c0 hC) rfl ?_
              refine GG.nmw (fun w14 e15 => ?_)
              have h := h w14 e15
              refine G_iinc (v := (l2 + 1)) (lv2 := [some (.ref (gad Γ 0)), some (.int l1), some (.int (l2 + 1))]) hO dX5_passes_65 rfl rfl (by decide) rfl rfl ?_
              refine G_goto (tgt := 33) hO dX5_passes_68 (by decide) ?_
              exact GG.sub (lv2 := [some (.ref (gad Γ 0)), some (.int l1), some (.int (l2 + 1))]) ⟨rfl, ⟨rfl, ⟨rfl, trivial⟩⟩⟩ h)
    (by
        intro l1 w h
        refine G_iload_n hO dX5_passes_79 rfl rfl ?_
        refine G_aload_n hO dX5_passes_80 rfl rfl ?_
        refine gi_X5_79 hO dX5_passes_81 (ShM.c0 hC) rfl ?_
        refine G_icmp_ge (tgt := 105) hO dX5_passes_84 (by decide) (fun c16 => ?_) (fun c16 => ?_)
        · have h := h.1 c16
          exact G_vret hO dX5_passes_105 rfl (QV.i h)
        · have h := h.2 c16
          refine G_aload_n hO dX5_passes_87 rfl rfl ?_
          refine gr_X5_20 (c := 4) hO dX5_passes_88 (ShM.c0 hC) rfl ?_
          refine G_iload_n hO dX5_passes_91 rfl rfl ?_
          refine G_aload_n hO dX5_passes_92 rfl rfl ?_
          refine gr_X5_44 (c := 12) hO dX5_passes_93 (ShM.c0 hC) rfl ?_
          refine G_iload_n hO dX5_passes_96 rfl rfl ?_
          obtain ⟨c17, h⟩ := h
          refine G_iaload hO dX5_passes_97 (ShM.c12 hC) c17 ?_
          refine G_iastore hO dX5_passes_98 (ShM.c4 hC) c17 ?_
          refine GG.nmw (fun w18 e19 => ?_)
          have h := h w18 e19
          refine G_iinc (v := (l1 + 1)) (lv2 := [some (.ref (gad Γ 0)), some (.int (l1 + 1)), none]) hO dX5_passes_99 rfl rfl (by decide) rfl rfl ?_
          refine G_goto (tgt := 79) hO dX5_passes_102 (by decide) ?_
          exact GG.sub (lv2 := [some (.ref (gad Γ 0)), some (.int (l1 + 1)), none]) ⟨rfl, ⟨rfl, trivial⟩⟩ h)
  refine G_iconst (v := 0) hO dX5_passes_0 rfl ?_
  refine G_istore_n (lv2 := [some (.ref (gad Γ 0)), some (.int (0 : Int32)), none]) hO dX5_passes_1 rfl (by decide) rfl rfl ?_
  exact GG.sub (lv2 := [some (.ref (gad Γ 0)), some (.int (0 : Int32)), none]) ⟨rfl, ⟨rfl, trivial⟩⟩ h
def wp_X5_sunday (Γ : Gx) (d : Nat)  (w : Wd) (Q : Int32 → Wd → Prop) : Prop :=
  ((¬ (w 0 0) = (999 : Int32) → CV Γ d M_X5_passes [.ref (gad Γ 0)] w (fun w3 => (∀ w4 : Wd, w4 = wset w3 0 0 ((w3 0 0) + (1 : Int32)) → CI Γ d M_X5_glad [.ref (gad Γ 0)] w4 (fun r6 w7 => Q r6 w7)))) ∧ ((w 0 0) = (999 : Int32) → Q (-1000 : Int32) w))
set_option maxRecDepth 20000 in
theorem con_X5_sunday {Γ : Gx} {d : Nat} (hG : GM Γ)   {w : Wd} {Q : Int32 → Wd → Prop} (h : wp_X5_sunday Γ d  w Q) : CI Γ (d + 1) M_X5_sunday [.ref (gad Γ 0)] w Q := by
  have hC := hG.2
  refine Con.of RX5 cX5_sunday 1 (some .int) [some (.ref (gad Γ 0))] rfl rfl (by decide +kernel) hG.1 (catR cat0) (Nat.le_of_ble_eq_true rfl) rfl ?_
  intro X hO
  refine G_aload_n hO dX5_sunday_0 rfl rfl ?_
  refine gi_X5_93 hO dX5_sunday_1 (ShM.c0 hC) rfl ?_
  refine G_sipush (v := 999) hO dX5_sunday_4 rfl ?_
  refine G_icmp_ne (tgt := 14) hO dX5_sunday_7 (by decide) (fun c1 => ?_) (fun c1 => ?_)
  · have h := h.1 c1
    refine G_aload_n hO dX5_sunday_14 rfl rfl ?_
    refine G_callVv hO dX5_sunday_15 h cl_X5_246 (ShM.c0 hC) rfl rfl (Nat.le_of_ble_eq_true rfl) (fun w3 h => ?_) rfl
    refine G_aload_n hO dX5_sunday_18 rfl rfl ?_
    refine G_dup hO dX5_sunday_19 rfl ?_
    refine gi_X5_93 hO dX5_sunday_20 (ShM.c0 hC) rfl ?_
    refine G_iconst (v := 1) hO dX5_sunday_23 rfl ?_
    refine G_iadd hO dX5_sunday_24 ?_
    refine pi_X5_93 hO dX5_sunday_25 (ShM.c0 hC) rfl ?_
    refine GG.nmw (fun w4 e5 => ?_)
    have h := h w4 e5
    refine G_aload_n hO dX5_sunday_28 rfl rfl ?_
    refine G_callVi hO dX5_sunday_29 h cl_X5_249 (ShM.c0 hC) rfl rfl (Nat.le_of_ble_eq_true rfl) (fun r6 w7 h => ?_) rfl
    exact G_iret hO dX5_sunday_32 rfl rfl (QI.i h)
  · have h := h.2 c1
    refine G_sipush (v := -1000) hO dX5_sunday_10 rfl ?_
    exact G_iret hO dX5_sunday_13 rfl rfl (QI.i h)
def wp_X5_keeps (Γ : Gx) (d : Nat)  (w : Wd) (Q : Wd → Prop) : Prop :=
  ∀ (P_2 : Int32 → Wd → Prop),
  (∀ (l1 : Int32) (w : Wd), (((5 : Int32) ≤ l1 → Q w) ∧ (¬ (5 : Int32) ≤ l1 → (vp_in l1 5 ∧ (∀ w3 : Wd, w3 = wset w 13 (l1).toNatClampNeg (w 4 (l1).toNatClampNeg) → P_2 (l1 + 1) w3)))) → P_2 l1 w) →
  P_2 (0 : Int32) w
set_option maxRecDepth 20000 in
theorem con_X5_keeps {Γ : Gx} {d : Nat} (hG : GM Γ)   {w : Wd} {Q : Wd → Prop} (h : wp_X5_keeps Γ d  w Q) : CV Γ (d + 1) M_X5_keeps [.ref (gad Γ 0)] w Q := by
  have hC := hG.2
  refine Con.of RX5 cX5_keeps 2 none [some (.ref (gad Γ 0)), none] rfl rfl (by decide +kernel) hG.1 (catR cat0) (Nat.le_of_ble_eq_true rfl) rfl ?_
  intro X hO
  have h := h
    (fun (l1 : Int32) (w : Wd) => GG Γ X (d + 1) 2 (QV Q) 2 [some (.ref (gad Γ 0)), some (.int l1)] [] w)
    (by
        intro l1 w h
        refine G_iload_n hO dX5_keeps_2 rfl rfl ?_
        refine G_iconst (v := 5) hO dX5_keeps_3 rfl ?_
        refine G_icmp_ge (tgt := 25) hO dX5_keeps_4 (by decide) (fun c1 => ?_) (fun c1 => ?_)
        · have h := h.1 c1
          exact G_vret hO dX5_keeps_25 rfl (QV.i h)
        · have h := h.2 c1
          refine G_aload_n hO dX5_keeps_7 rfl rfl ?_
          refine gr_X5_47 (c := 13) hO dX5_keeps_8 (ShM.c0 hC) rfl ?_
          refine G_iload_n hO dX5_keeps_11 rfl rfl ?_
          refine G_aload_n hO dX5_keeps_12 rfl rfl ?_
          refine gr_X5_20 (c := 4) hO dX5_keeps_13 (ShM.c0 hC) rfl ?_
          refine G_iload_n hO dX5_keeps_16 rfl rfl ?_
          obtain ⟨c2, h⟩ := h
          refine G_iaload hO dX5_keeps_17 (ShM.c4 hC) c2 ?_
          refine G_iastore hO dX5_keeps_18 (ShM.c13 hC) c2 ?_
          refine GG.nmw (fun w3 e4 => ?_)
          have h := h w3 e4
          refine G_iinc (v := (l1 + 1)) (lv2 := [some (.ref (gad Γ 0)), some (.int (l1 + 1))]) hO dX5_keeps_19 rfl rfl (by decide) rfl rfl ?_
          refine G_goto (tgt := 2) hO dX5_keeps_22 (by decide) ?_
          exact GG.sub (lv2 := [some (.ref (gad Γ 0)), some (.int (l1 + 1))]) ⟨rfl, ⟨rfl, trivial⟩⟩ h)
  refine G_iconst (v := 0) hO dX5_keeps_0 rfl ?_
  refine G_istore_n (lv2 := [some (.ref (gad Γ 0)), some (.int (0 : Int32))]) hO dX5_keeps_1 rfl (by decide) rfl rfl ?_
  exact GG.sub (lv2 := [some (.ref (gad Γ 0)), some (.int (0 : Int32))]) ⟨rfl, ⟨rfl, trivial⟩⟩ h
def wp_X5_restores (Γ : Gx) (d : Nat)  (w : Wd) (Q : Wd → Prop) : Prop :=
  ∀ (P_2 : Int32 → Wd → Prop),
  (∀ (l1 : Int32) (w : Wd), (((5 : Int32) ≤ l1 → Q w) ∧ (¬ (5 : Int32) ≤ l1 → (vp_in l1 5 ∧ (∀ w3 : Wd, w3 = wset w 4 (l1).toNatClampNeg (w 13 (l1).toNatClampNeg) → P_2 (l1 + 1) w3)))) → P_2 l1 w) →
  P_2 (0 : Int32) w
set_option maxRecDepth 20000 in
theorem con_X5_restores {Γ : Gx} {d : Nat} (hG : GM Γ)   {w : Wd} {Q : Wd → Prop} (h : wp_X5_restores Γ d  w Q) : CV Γ (d + 1) M_X5_restores [.ref (gad Γ 0)] w Q := by
  have hC := hG.2
  refine Con.of RX5 cX5_restores 2 none [some (.ref (gad Γ 0)), none] rfl rfl (by decide +kernel) hG.1 (catR cat0) (Nat.le_of_ble_eq_true rfl) rfl ?_
  intro X hO
  have h := h
    (fun (l1 : Int32) (w : Wd) => GG Γ X (d + 1) 2 (QV Q) 2 [some (.ref (gad Γ 0)), some (.int l1)] [] w)
    (by
        intro l1 w h
        refine G_iload_n hO dX5_restores_2 rfl rfl ?_
        refine G_iconst (v := 5) hO dX5_restores_3 rfl ?_
        refine G_icmp_ge (tgt := 25) hO dX5_restores_4 (by decide) (fun c1 => ?_) (fun c1 => ?_)
        · have h := h.1 c1
          exact G_vret hO dX5_restores_25 rfl (QV.i h)
        · have h := h.2 c1
          refine G_aload_n hO dX5_restores_7 rfl rfl ?_
          refine gr_X5_20 (c := 4) hO dX5_restores_8 (ShM.c0 hC) rfl ?_
          refine G_iload_n hO dX5_restores_11 rfl rfl ?_
          refine G_aload_n hO dX5_restores_12 rfl rfl ?_
          refine gr_X5_47 (c := 13) hO dX5_restores_13 (ShM.c0 hC) rfl ?_
          refine G_iload_n hO dX5_restores_16 rfl rfl ?_
          obtain ⟨c2, h⟩ := h
          refine G_iaload hO dX5_restores_17 (ShM.c13 hC) c2 ?_
          refine G_iastore hO dX5_restores_18 (ShM.c4 hC) c2 ?_
          refine GG.nmw (fun w3 e4 => ?_)
          have h := h w3 e4
          refine G_iinc (v := (l1 + 1)) (lv2 := [some (.ref (gad Γ 0)), some (.int (l1 + 1))]) hO dX5_restores_19 rfl rfl (by decide) rfl rfl ?_
          refine G_goto (tgt := 2) hO dX5_restores_22 (by decide) ?_
          exact GG.sub (lv2 := [some (.ref (gad Γ 0)), some (.int (l1 + 1))]) ⟨rfl, ⟨rfl, trivial⟩⟩ h)
  refine G_iconst (v := 0) hO dX5_restores_0 rfl ?_
  refine G_istore_n (lv2 := [some (.ref (gad Γ 0)), some (.int (0 : Int32))]) hO dX5_restores_1 rfl (by decide) rfl rfl ?_
  exact GG.sub (lv2 := [some (.ref (gad Γ 0)), some (.int (0 : Int32))]) ⟨rfl, ⟨rfl, trivial⟩⟩ h
def wp_X5_runs (Γ : Gx) (d : Nat) (p1 : Int32) (w : Wd) (Q : Wd → Prop) : Prop :=
  ∀ (P_11 : Int32 → Wd → Prop),
  (∀ (l2 : Int32) (w : Wd), ((p1 ≤ l2 → Q w) ∧ (¬ p1 ≤ l2 → CV Γ d M_X5_passes [.ref (gad Γ 0)] w (fun w7 => P_11 (l2 + 1) w7))) → P_11 l2 w) →
  CV Γ d M_X5_keeps [.ref (gad Γ 0)] w (fun w2 => (∀ w3 : Wd, w3 = wset w2 0 30 (0 : Int32) → P_11 (0 : Int32) w3))
set_option maxRecDepth 20000 in
theorem con_X5_runs {Γ : Gx} {d : Nat} (hG : GM Γ) {p1 : Int32}  {w : Wd} {Q : Wd → Prop} (h : wp_X5_runs Γ d p1 w Q) : CV Γ (d + 1) M_X5_runs [.ref (gad Γ 0), .int p1] w Q := by
  have hC := hG.2
  refine Con.of RX5 cX5_runs 3 none [some (.ref (gad Γ 0)), some (.int p1), none] rfl rfl (by decide +kernel) hG.1 (catR (catI cat0)) (Nat.le_of_ble_eq_true rfl) rfl ?_
  intro X hO
  have h := h
    (fun (l2 : Int32) (w : Wd) => GG Γ X (d + 1) 3 (QV Q) 11 [some (.ref (gad Γ 0)), some (.int p1), some (.int l2)] [] w)
    (by
        intro l2 w h
        refine G_iload_n hO dX5_runs_11 rfl rfl ?_
        refine G_iload_n hO dX5_runs_12 rfl rfl ?_
        refine G_icmp_ge (tgt := 26) hO dX5_runs_13 (by decide) (fun c5 => ?_) (fun c5 => ?_)
        · have h := h.1 c5
          exact G_vret hO dX5_runs_26 rfl (QV.i h)
        · have h := h.2 c5
          refine G_aload_n hO dX5_runs_16 rfl rfl ?_
          refine G_callVv hO dX5_runs_17 h cl_X5_246 (ShM.c0 hC) rfl rfl (Nat.le_of_ble_eq_true rfl) (fun w7 h => ?_) rfl
          refine G_iinc (v := (l2 + 1)) (lv2 := [some (.ref (gad Γ 0)), some (.int p1), some (.int (l2 + 1))]) hO dX5_runs_20 rfl rfl (by decide) rfl rfl ?_
          refine G_goto (tgt := 11) hO dX5_runs_23 (by decide) ?_
          exact GG.sub (lv2 := [some (.ref (gad Γ 0)), some (.int p1), some (.int (l2 + 1))]) ⟨rfl, ⟨rfl, ⟨rfl, trivial⟩⟩⟩ h)
  refine G_aload_n hO dX5_runs_0 rfl rfl ?_
  refine G_callVv hO dX5_runs_1 h cl_X5_252 (ShM.c0 hC) rfl rfl (Nat.le_of_ble_eq_true rfl) (fun w2 h => ?_) rfl
  refine G_aload_n hO dX5_runs_4 rfl rfl ?_
  refine G_iconst (v := 0) hO dX5_runs_5 rfl ?_
  refine pi_X5_243 hO dX5_runs_6 (ShM.c0 hC) rfl ?_
  refine GG.nmw (fun w3 e4 => ?_)
  have h := h w3 e4
  refine G_iconst (v := 0) hO dX5_runs_9 rfl ?_
  refine G_istore_n (lv2 := [some (.ref (gad Γ 0)), some (.int p1), some (.int (0 : Int32))]) hO dX5_runs_10 rfl (by decide) rfl rfl ?_
  exact GG.sub (lv2 := [some (.ref (gad Γ 0)), some (.int p1), some (.int (0 : Int32))]) ⟨rfl, ⟨rfl, ⟨rfl, trivial⟩⟩⟩ h
def wp_X5_gladBehind (Γ : Gx) (d : Nat) (p1 : Int32) (w : Wd) (Q : Int32 → Wd → Prop) : Prop :=
  CV Γ d M_X5_runs [.ref (gad Γ 0), .int p1] w (fun w2 => CI Γ d M_X5_glad [.ref (gad Γ 0)] w2 (fun r3 w4 => CV Γ d M_X5_restores [.ref (gad Γ 0)] w4 (fun w6 => Q r3 w6)))
set_option maxRecDepth 20000 in
theorem con_X5_gladBehind {Γ : Gx} {d : Nat} (hG : GM Γ) {p1 : Int32}  {w : Wd} {Q : Int32 → Wd → Prop} (h : wp_X5_gladBehind Γ d p1 w Q) : CI Γ (d + 1) M_X5_gladBehind [.ref (gad Γ 0), .int p1] w Q := by
  have hC := hG.2
  refine Con.of RX5 cX5_gladBehind 3 (some .int) [some (.ref (gad Γ 0)), some (.int p1), none] rfl rfl (by decide +kernel) hG.1 (catR (catI cat0)) (Nat.le_of_ble_eq_true rfl) rfl ?_
  intro X hO
  refine G_aload_n hO dX5_gladBehind_0 rfl rfl ?_
  refine G_iload_n hO dX5_gladBehind_1 rfl rfl ?_
  refine G_callVv hO dX5_gladBehind_2 h cl_X5_255 (ShM.c0 hC) rfl rfl (Nat.le_of_ble_eq_true rfl) (fun w2 h => ?_) rfl
  refine G_aload_n hO dX5_gladBehind_5 rfl rfl ?_
  refine G_callVi hO dX5_gladBehind_6 h cl_X5_249 (ShM.c0 hC) rfl rfl (Nat.le_of_ble_eq_true rfl) (fun r3 w4 h => ?_) rfl
  refine G_istore_n (lv2 := [some (.ref (gad Γ 0)), some (.int p1), some (.int r3)]) hO dX5_gladBehind_9 rfl (by decide) rfl rfl ?_
  refine G_aload_n hO dX5_gladBehind_10 rfl rfl ?_
  refine G_callVv hO dX5_gladBehind_11 h cl_X5_258 (ShM.c0 hC) rfl rfl (Nat.le_of_ble_eq_true rfl) (fun w6 h => ?_) rfl
  refine G_iload_n hO dX5_gladBehind_14 rfl rfl ?_
  exact G_iret hO dX5_gladBehind_15 rfl rfl (QI.i h)
def wp_X5_run (Γ : Gx) (d : Nat) (p1 : Int32) (p2 : Int32) (w : Wd) (Q : Int32 → Wd → Prop) : Prop :=
  ∀ (P_34 : Wd → Prop),
  (∀ (w : Wd), CV Γ d M_X5_runs [.ref (gad Γ 0), .int p1] w (fun w11 => ((¬ p2 = 0 → ((¬ p2 = (1 : Int32) → (vp_in (p2 - (10 : Int32)) 5 ∧ CV Γ d M_X5_restores [.ref (gad Γ 0)] w11 (fun w16 => Q (w11 4 ((p2 - (10 : Int32))).toNatClampNeg) w16))) ∧ (p2 = (1 : Int32) → CV Γ d M_X5_restores [.ref (gad Γ 0)] w11 (fun w18 => Q (w11 0 30) w18)))) ∧ (p2 = 0 → CI Γ d M_X5_glad [.ref (gad Γ 0)] w11 (fun r19 w20 => CV Γ d M_X5_restores [.ref (gad Γ 0)] w20 (fun w22 => Q r19 w22))))) → P_34 w) →
  CI Γ d M_X5_within [.int p1, .int (0 : Int32), .int (40 : Int32)] w (fun r1 w2 => ((r1 = 0 → Q (-1000 : Int32) w2) ∧ (¬ r1 = 0 → CI Γ d M_X5_within [.int p2, .int (0 : Int32), .int (1 : Int32)] w2 (fun r4 w5 => ((¬ r4 = 0 → P_34 w5) ∧ (r4 = 0 → CI Γ d M_X5_isOne [.ref (gad Γ 0), .int (p2 - (10 : Int32))] w5 (fun r7 w8 => ((¬ r7 = 0 → P_34 w8) ∧ (r7 = 0 → Q (-1000 : Int32) w8)))))))))
set_option maxRecDepth 20000 in
theorem con_X5_run {Γ : Gx} {d : Nat} (hG : GM Γ) {p1 : Int32} {p2 : Int32}  {w : Wd} {Q : Int32 → Wd → Prop} (h : wp_X5_run Γ d p1 p2 w Q) : CI Γ (d + 1) M_X5_run [.ref (gad Γ 0), .int p1, .int p2] w Q := by
  have hC := hG.2
  refine Con.of RX5 cX5_run 4 (some .int) [some (.ref (gad Γ 0)), some (.int p1), some (.int p2), none] rfl rfl (by decide +kernel) hG.1 (catR (catI (catI cat0))) (Nat.le_of_ble_eq_true rfl) rfl ?_
  intro X hO
  have h := h
    (fun (w : Wd) => GG Γ X (d + 1) 4 (QI Q) 34 [some (.ref (gad Γ 0)), some (.int p1), some (.int p2), none] [] w)
    (by
        intro w h
        refine G_aload_n hO dX5_run_34 rfl rfl ?_
        refine G_iload_n hO dX5_run_35 rfl rfl ?_
        refine G_callVv hO dX5_run_36 h cl_X5_255 (ShM.c0 hC) rfl rfl (Nat.le_of_ble_eq_true rfl) (fun w11 h => ?_) rfl
        refine G_iload_n hO dX5_run_39 rfl rfl ?_
        refine G_if_ne (tgt := 50) hO dX5_run_40 (by decide) (fun c12 => ?_) (fun c12 => ?_)
        · have h := h.1 c12
          refine G_iload_n hO dX5_run_50 rfl rfl ?_
          refine G_iconst (v := 1) hO dX5_run_51 rfl ?_
          refine G_icmp_ne (tgt := 62) hO dX5_run_52 (by decide) (fun c13 => ?_) (fun c13 => ?_)
          · have h := h.1 c13
            refine G_aload_n hO dX5_run_62 rfl rfl ?_
            refine gr_X5_20 (c := 4) hO dX5_run_63 (ShM.c0 hC) rfl ?_
            refine G_iload_n hO dX5_run_66 rfl rfl ?_
            refine G_bipush (v := 10) hO dX5_run_67 rfl ?_
            refine G_isub hO dX5_run_69 ?_
            obtain ⟨c14, h⟩ := h
            refine G_iaload hO dX5_run_70 (ShM.c4 hC) c14 ?_
            refine G_istore_n (lv2 := [some (.ref (gad Γ 0)), some (.int p1), some (.int p2), some (.int (w11 4 ((p2 - (10 : Int32))).toNatClampNeg))]) hO dX5_run_71 rfl (by decide) rfl rfl ?_
            refine G_aload_n hO dX5_run_72 rfl rfl ?_
            refine G_callVv hO dX5_run_73 h cl_X5_258 (ShM.c0 hC) rfl rfl (Nat.le_of_ble_eq_true rfl) (fun w16 h => ?_) rfl
            refine G_iload_n hO dX5_run_76 rfl rfl ?_
            exact G_iret hO dX5_run_77 rfl rfl (QI.i h)
          · have h := h.2 c13
            refine G_aload_n hO dX5_run_55 rfl rfl ?_
            refine gi_X5_243 hO dX5_run_56 (ShM.c0 hC) rfl ?_
            refine G_goto (tgt := 71) hO dX5_run_59 (by decide) ?_
            refine G_istore_n (lv2 := [some (.ref (gad Γ 0)), some (.int p1), some (.int p2), some (.int (w11 0 30))]) hO dX5_run_71 rfl (by decide) rfl rfl ?_
            refine G_aload_n hO dX5_run_72 rfl rfl ?_
            refine G_callVv hO dX5_run_73 h cl_X5_258 (ShM.c0 hC) rfl rfl (Nat.le_of_ble_eq_true rfl) (fun w18 h => ?_) rfl
            refine G_iload_n hO dX5_run_76 rfl rfl ?_
            exact G_iret hO dX5_run_77 rfl rfl (QI.i h)
        · have h := h.2 c12
          refine G_aload_n hO dX5_run_43 rfl rfl ?_
          refine G_callVi hO dX5_run_44 h cl_X5_249 (ShM.c0 hC) rfl rfl (Nat.le_of_ble_eq_true rfl) (fun r19 w20 h => ?_) rfl
          refine G_goto (tgt := 71) hO dX5_run_47 (by decide) ?_
          refine G_istore_n (lv2 := [some (.ref (gad Γ 0)), some (.int p1), some (.int p2), some (.int r19)]) hO dX5_run_71 rfl (by decide) rfl rfl ?_
          refine G_aload_n hO dX5_run_72 rfl rfl ?_
          refine G_callVv hO dX5_run_73 h cl_X5_258 (ShM.c0 hC) rfl rfl (Nat.le_of_ble_eq_true rfl) (fun w22 h => ?_) rfl
          refine G_iload_n hO dX5_run_76 rfl rfl ?_
          exact G_iret hO dX5_run_77 rfl rfl (QI.i h))
  refine G_iload_n hO dX5_run_0 rfl rfl ?_
  refine G_iconst (v := 0) hO dX5_run_1 rfl ?_
  refine G_bipush (v := 40) hO dX5_run_2 rfl ?_
  refine G_callSi hO dX5_run_4 h cl_X5_82 rfl (Nat.le_of_ble_eq_true rfl) (fun r1 w2 h => ?_) rfl
  refine G_if_eq (tgt := 30) hO dX5_run_7 (by decide) (fun c3 => ?_) (fun c3 => ?_)
  · have h := h.1 c3
    refine G_sipush (v := -1000) hO dX5_run_30 rfl ?_
    exact G_iret hO dX5_run_33 rfl rfl (QI.i h)
  · have h := h.2 c3
    refine G_iload_n hO dX5_run_10 rfl rfl ?_
    refine G_iconst (v := 0) hO dX5_run_11 rfl ?_
    refine G_iconst (v := 1) hO dX5_run_12 rfl ?_
    refine G_callSi hO dX5_run_13 h cl_X5_82 rfl (Nat.le_of_ble_eq_true rfl) (fun r4 w5 h => ?_) rfl
    refine G_if_ne (tgt := 34) hO dX5_run_16 (by decide) (fun c6 => ?_) (fun c6 => ?_)
    · have h := h.1 c6
      exact GG.sub (lv2 := [some (.ref (gad Γ 0)), some (.int p1), some (.int p2), none]) ⟨rfl, ⟨rfl, ⟨rfl, trivial⟩⟩⟩ h
    · have h := h.2 c6
      refine G_aload_n hO dX5_run_19 rfl rfl ?_
      refine G_iload_n hO dX5_run_20 rfl rfl ?_
      refine G_bipush (v := 10) hO dX5_run_21 rfl ?_
      refine G_isub hO dX5_run_23 ?_
      refine G_callVi hO dX5_run_24 h cl_X5_86 (ShM.c0 hC) rfl rfl (Nat.le_of_ble_eq_true rfl) (fun r7 w8 h => ?_) rfl
      refine G_if_ne (tgt := 34) hO dX5_run_27 (by decide) (fun c9 => ?_) (fun c9 => ?_)
      · have h := h.1 c9
        exact GG.sub (lv2 := [some (.ref (gad Γ 0)), some (.int p1), some (.int p2), none]) ⟨rfl, ⟨rfl, ⟨rfl, trivial⟩⟩⟩ h
      · have h := h.2 c9
        refine G_sipush (v := -1000) hO dX5_run_30 rfl ?_
        exact G_iret hO dX5_run_33 rfl rfl (QI.i h)
def wp_X5_isAlike (Γ : Gx) (d : Nat) (p1 : Int32) (p2 : Int32) (w : Wd) (Q : Int32 → Wd → Prop) : Prop :=
  ∀ (P_2 : Int32 → Wd → Prop),
  (∀ (l3 : Int32) (w : Wd), (((w 0 2) ≤ l3 → Q (1 : Int32) w) ∧ (¬ (w 0 2) ≤ l3 → (vp_in (((5 : Int32) * p1) + l3) 205 ∧ (vp_in (((5 : Int32) * p2) + l3) 205 ∧ (((w 14 ((((5 : Int32) * p1) + l3)).toNatClampNeg) = (w 14 ((((5 : Int32) * p2) + l3)).toNatClampNeg) → P_2 (l3 + 1) w) ∧ (¬ (w 14 ((((5 : Int32) * p1) + l3)).toNatClampNeg) = (w 14 ((((5 : Int32) * p2) + l3)).toNatClampNeg) → Q (0 : Int32) w)))))) → P_2 l3 w) →
  P_2 (0 : Int32) w
set_option maxRecDepth 20000 in
theorem con_X5_isAlike {Γ : Gx} {d : Nat} (hG : GM Γ) {p1 : Int32} {p2 : Int32}  {w : Wd} {Q : Int32 → Wd → Prop} (h : wp_X5_isAlike Γ d p1 p2 w Q) : CI Γ (d + 1) M_X5_isAlike [.ref (gad Γ 0), .int p1, .int p2] w Q := by
  have hC := hG.2
  refine Con.of RX5 cX5_isAlike 4 (some .boolean) [some (.ref (gad Γ 0)), some (.int p1), some (.int p2), none] rfl rfl (by decide +kernel) hG.1 (catR (catI (catI cat0))) (Nat.le_of_ble_eq_true rfl) rfl ?_
  intro X hO
  have h := h
    (fun (l3 : Int32) (w : Wd) => GG Γ X (d + 1) 4 (QI Q) 2 [some (.ref (gad Γ 0)), some (.int p1), some (.int p2), some (.int l3)] [] w)
    (by
        intro l3 w h
        refine G_iload_n hO dX5_isAlike_2 rfl rfl ?_
        refine G_aload_n hO dX5_isAlike_3 rfl rfl ?_
        refine gi_X5_79 hO dX5_isAlike_4 (ShM.c0 hC) rfl ?_
        refine G_icmp_ge (tgt := 41) hO dX5_isAlike_7 (by decide) (fun c1 => ?_) (fun c1 => ?_)
        · have h := h.1 c1
          refine G_iconst (v := 1) hO dX5_isAlike_41 rfl ?_
          exact G_iret hO dX5_isAlike_42 rfl rfl (QI.i h)
        · have h := h.2 c1
          refine G_aload_n hO dX5_isAlike_10 rfl rfl ?_
          refine gr_X5_50 (c := 14) hO dX5_isAlike_11 (ShM.c0 hC) rfl ?_
          refine G_iconst (v := 5) hO dX5_isAlike_14 rfl ?_
          refine G_iload_n hO dX5_isAlike_15 rfl rfl ?_
          refine G_imul hO dX5_isAlike_16 ?_
          refine G_iload_n hO dX5_isAlike_17 rfl rfl ?_
          refine G_iadd hO dX5_isAlike_18 ?_
          obtain ⟨c2, h⟩ := h
          refine G_iaload hO dX5_isAlike_19 (ShM.c14 hC) c2 ?_
          refine G_aload_n hO dX5_isAlike_20 rfl rfl ?_
          refine gr_X5_50 (c := 14) hO dX5_isAlike_21 (ShM.c0 hC) rfl ?_
          refine G_iconst (v := 5) hO dX5_isAlike_24 rfl ?_
          refine G_iload_n hO dX5_isAlike_25 rfl rfl ?_
          refine GG.atpc (pc2 := 26) rfl ?_
          refine G_imul hO dX5_isAlike_26 ?_
          refine G_iload_n hO dX5_isAlike_27 rfl rfl ?_
          refine G_iadd hO dX5_isAlike_28 ?_
          obtain ⟨c3, h⟩ := h
          refine G_iaload hO dX5_isAlike_29 (ShM.c14 hC) c3 ?_
          refine G_icmp_eq (tgt := 35) hO dX5_isAlike_30 (by decide) (fun c4 => ?_) (fun c4 => ?_)
          · have h := h.1 c4
            refine G_iinc (v := (l3 + 1)) (lv2 := [some (.ref (gad Γ 0)), some (.int p1), some (.int p2), some (.int (l3 + 1))]) hO dX5_isAlike_35 rfl rfl (by decide) rfl rfl ?_
            refine G_goto (tgt := 2) hO dX5_isAlike_38 (by decide) ?_
            exact GG.sub (lv2 := [some (.ref (gad Γ 0)), some (.int p1), some (.int p2), some (.int (l3 + 1))]) ⟨rfl, ⟨rfl, ⟨rfl, ⟨rfl, trivial⟩⟩⟩⟩ h
          · have h := h.2 c4
            refine G_iconst (v := 0) hO dX5_isAlike_33 rfl ?_
            exact G_iret hO dX5_isAlike_34 rfl rfl (QI.i h))
  refine G_iconst (v := 0) hO dX5_isAlike_0 rfl ?_
  refine G_istore_n (lv2 := [some (.ref (gad Γ 0)), some (.int p1), some (.int p2), some (.int (0 : Int32))]) hO dX5_isAlike_1 rfl (by decide) rfl rfl ?_
  exact GG.sub (lv2 := [some (.ref (gad Γ 0)), some (.int p1), some (.int p2), some (.int (0 : Int32))]) ⟨rfl, ⟨rfl, ⟨rfl, ⟨rfl, trivial⟩⟩⟩⟩ h
def wp_X5_remembers (Γ : Gx) (d : Nat)  (w : Wd) (Q : Wd → Prop) : Prop :=
  ∀ (P_6 : Int32 → Wd → Prop),
  ∀ (P_22 : Int32 → Int32 → Wd → Prop),
  (∀ (l1 : Int32) (w : Wd), (((41 : Int32) ≤ l1 → CV Γ d M_X5_restores [.ref (gad Γ 0)] w (fun w5 => Q w5)) ∧ (¬ (41 : Int32) ≤ l1 → ((l1 ≤ 0 → P_22 l1 (0 : Int32) w) ∧ (¬ l1 ≤ 0 → CV Γ d M_X5_passes [.ref (gad Γ 0)] w (fun w8 => P_22 l1 (0 : Int32) w8))))) → P_6 l1 w) →
  (∀ (l1 : Int32) (l2 : Int32) (w : Wd), (((5 : Int32) ≤ l2 → P_6 (l1 + 1) w) ∧ (¬ (5 : Int32) ≤ l2 → (vp_in l2 5 ∧ (vp_in (((5 : Int32) * l1) + l2) 205 ∧ (∀ w12 : Wd, w12 = wset w 14 ((((5 : Int32) * l1) + l2)).toNatClampNeg (w 4 (l2).toNatClampNeg) → P_22 l1 (l2 + 1) w12))))) → P_22 l1 l2 w) →
  CV Γ d M_X5_keeps [.ref (gad Γ 0)] w (fun w2 => P_6 (0 : Int32) w2)
set_option maxRecDepth 20000 in
theorem con_X5_remembers {Γ : Gx} {d : Nat} (hG : GM Γ)   {w : Wd} {Q : Wd → Prop} (h : wp_X5_remembers Γ d  w Q) : CV Γ (d + 1) M_X5_remembers [.ref (gad Γ 0)] w Q := by
  have hC := hG.2
  refine Con.of RX5 cX5_remembers 3 none [some (.ref (gad Γ 0)), none, none] rfl rfl (by decide +kernel) hG.1 (catR cat0) (Nat.le_of_ble_eq_true rfl) rfl ?_
  intro X hO
  have h := h
    (fun (l1 : Int32) (w : Wd) => GG Γ X (d + 1) 3 (QV Q) 6 [some (.ref (gad Γ 0)), some (.int l1), none] [] w)
    (fun (l1 : Int32) (l2 : Int32) (w : Wd) => GG Γ X (d + 1) 3 (QV Q) 22 [some (.ref (gad Γ 0)), some (.int l1), some (.int l2)] [] w)
    (by
        intro l1 w h
        refine G_iload_n hO dX5_remembers_6 rfl rfl ?_
        refine G_bipush (v := 41) hO dX5_remembers_7 rfl ?_
        refine G_icmp_ge (tgt := 55) hO dX5_remembers_9 (by decide) (fun c3 => ?_) (fun c3 => ?_)
        · have h := h.1 c3
          refine G_aload_n hO dX5_remembers_55 rfl rfl ?_
          refine G_callVv hO dX5_remembers_56 h cl_X5_258 (ShM.c0 hC) rfl rfl (Nat.le_of_ble_eq_true rfl) (fun w5 h => ?_) rfl
          exact G_vret hO dX5_remembers_59 rfl (QV.i h)
        · have h := h.2 c3
          refine G_iload_n hO dX5_remembers_12 rfl rfl ?_
          refine G_if_le (tgt := 20) hO dX5_remembers_13 (by decide) (fun c6 => ?_) (fun c6 => ?_)
          · have h := h.1 c6
            refine G_iconst (v := 0) hO dX5_remembers_20 rfl ?_
            refine G_istore_n (lv2 := [some (.ref (gad Γ 0)), some (.int l1), some (.int (0 : Int32))]) hO dX5_remembers_21 rfl (by decide) rfl rfl ?_
            exact GG.sub (lv2 := [some (.ref (gad Γ 0)), some (.int l1), some (.int (0 : Int32))]) ⟨rfl, ⟨rfl, ⟨rfl, trivial⟩⟩⟩ h
          · have h := h.2 c6
            refine G_aload_n hO dX5_remembers_16 rfl rfl ?_
            refine G_callVv hO dX5_remembers_17 h cl_X5_246 (ShM.c0 hC) rfl rfl (Nat.le_of_ble_eq_true rfl) (fun w8 h => ?_) rfl
            refine G_iconst (v := 0) hO dX5_remembers_20 rfl ?_
            refine G_istore_n (lv2 := [some (.ref (gad Γ 0)), some (.int l1), some (.int (0 : Int32))]) hO dX5_remembers_21 rfl (by decide) rfl rfl ?_
            exact GG.sub (lv2 := [some (.ref (gad Γ 0)), some (.int l1), some (.int (0 : Int32))]) ⟨rfl, ⟨rfl, ⟨rfl, trivial⟩⟩⟩ h)
    (by
        intro l1 l2 w h
        refine G_iload_n hO dX5_remembers_22 rfl rfl ?_
        refine G_iconst (v := 5) hO dX5_remembers_23 rfl ?_
        refine G_icmp_ge (tgt := 49) hO dX5_remembers_24 (by decide) (fun c9 => ?_) (fun c9 => ?_)
        · have h := h.1 c9
          refine G_iinc (v := (l1 + 1)) (lv2 := [some (.ref (gad Γ 0)), some (.int (l1 + 1)), some (.int l2)]) hO dX5_remembers_49 rfl rfl (by decide) rfl rfl ?_
          refine G_goto (tgt := 6) hO dX5_remembers_52 (by decide) ?_
          exact GG.sub (lv2 := [some (.ref (gad Γ 0)), some (.int (l1 + 1)), none]) ⟨rfl, ⟨rfl, trivial⟩⟩ h
        · have h := h.2 c9
          refine G_aload_n hO dX5_remembers_27 rfl rfl ?_
          refine gr_X5_50 (c := 14) hO dX5_remembers_28 (ShM.c0 hC) rfl ?_
          refine G_iconst (v := 5) hO dX5_remembers_31 rfl ?_
          refine G_iload_n hO dX5_remembers_32 rfl rfl ?_
          refine G_imul hO dX5_remembers_33 ?_
          refine G_iload_n hO dX5_remembers_34 rfl rfl ?_
          refine G_iadd hO dX5_remembers_35 ?_
          refine G_aload_n hO dX5_remembers_36 rfl rfl ?_
          refine gr_X5_20 (c := 4) hO dX5_remembers_37 (ShM.c0 hC) rfl ?_
          refine G_iload_n hO dX5_remembers_40 rfl rfl ?_
          obtain ⟨c10, h⟩ := h
          refine G_iaload hO dX5_remembers_41 (ShM.c4 hC) c10 ?_
          obtain ⟨c11, h⟩ := h
          refine G_iastore hO dX5_remembers_42 (ShM.c14 hC) c11 ?_
          refine GG.nmw (fun w12 e13 => ?_)
          have h := h w12 e13
          refine GG.atpc (pc2 := 43) rfl ?_
          refine G_iinc (v := (l2 + 1)) (lv2 := [some (.ref (gad Γ 0)), some (.int l1), some (.int (l2 + 1))]) hO dX5_remembers_43 rfl rfl (by decide) rfl rfl ?_
          refine G_goto (tgt := 22) hO dX5_remembers_46 (by decide) ?_
          exact GG.sub (lv2 := [some (.ref (gad Γ 0)), some (.int l1), some (.int (l2 + 1))]) ⟨rfl, ⟨rfl, ⟨rfl, trivial⟩⟩⟩ h)
  refine G_aload_n hO dX5_remembers_0 rfl rfl ?_
  refine G_callVv hO dX5_remembers_1 h cl_X5_252 (ShM.c0 hC) rfl rfl (Nat.le_of_ble_eq_true rfl) (fun w2 h => ?_) rfl
  refine G_iconst (v := 0) hO dX5_remembers_4 rfl ?_
  refine G_istore_n (lv2 := [some (.ref (gad Γ 0)), some (.int (0 : Int32)), none]) hO dX5_remembers_5 rfl (by decide) rfl rfl ?_
  exact GG.sub (lv2 := [some (.ref (gad Γ 0)), some (.int (0 : Int32)), none]) ⟨rfl, ⟨rfl, trivial⟩⟩ h
def wp_X5_again (Γ : Gx) (d : Nat) (p1 : Int32) (w : Wd) (Q : Int32 → Wd → Prop) : Prop :=
  ∀ (P_23 : Int32 → Wd → Prop),
  ∀ (P_52 : Int32 → Wd → Prop),
  ∀ (P_62 : Int32 → Int32 → Wd → Prop),
  (∀ (l2 : Int32) (w : Wd), (((40 : Int32) ≤ l2 → Q (-1 : Int32) w) ∧ (¬ (40 : Int32) ≤ l2 → CI Γ d M_X5_isAlike [.ref (gad Γ 0), .int l2, .int (l2 + (1 : Int32))] w (fun r8 w9 => ((r8 = 0 → P_23 (l2 + 1) w9) ∧ (¬ r8 = 0 → Q l2 w9))))) → P_23 l2 w) →
  (∀ (l2 : Int32) (w : Wd), (((41 : Int32) ≤ l2 → Q (-1 : Int32) w) ∧ (¬ (41 : Int32) ≤ l2 → P_62 l2 (l2 - (1 : Int32)) w)) → P_52 l2 w) →
  (∀ (l2 : Int32) (l3 : Int32) (w : Wd), ((l3 < 0 → P_52 (l2 + 1) w) ∧ (¬ l3 < 0 → CI Γ d M_X5_isAlike [.ref (gad Γ 0), .int l2, .int l3] w (fun r13 w14 => ((r13 = 0 → P_62 l2 (l3 + (-1)) w14) ∧ (¬ r13 = 0 → ((¬ p1 = 0 → Q (l2 - l3) w14) ∧ (p1 = 0 → Q l2 w14))))))) → P_62 l2 l3 w) →
  CI Γ d M_X5_within [.int p1, .int (0 : Int32), .int (2 : Int32)] w (fun r1 w2 => ((¬ r1 = 0 → CV Γ d M_X5_remembers [.ref (gad Γ 0)] w2 (fun w5 => ((¬ p1 = (2 : Int32) → P_52 (1 : Int32) w5) ∧ (p1 = (2 : Int32) → P_23 (0 : Int32) w5)))) ∧ (r1 = 0 → Q (-2 : Int32) w2)))
set_option maxRecDepth 20000 in
theorem con_X5_again {Γ : Gx} {d : Nat} (hG : GM Γ) {p1 : Int32}  {w : Wd} {Q : Int32 → Wd → Prop} (h : wp_X5_again Γ d p1 w Q) : CI Γ (d + 1) M_X5_again [.ref (gad Γ 0), .int p1] w Q := by
  have hC := hG.2
  refine Con.of RX5 cX5_again 4 (some .int) [some (.ref (gad Γ 0)), some (.int p1), none, none] rfl rfl (by decide +kernel) hG.1 (catR (catI cat0)) (Nat.le_of_ble_eq_true rfl) rfl ?_
  intro X hO
  have h := h
    (fun (l2 : Int32) (w : Wd) => GG Γ X (d + 1) 4 (QI Q) 23 [some (.ref (gad Γ 0)), none, some (.int l2), none] [] w)
    (fun (l2 : Int32) (w : Wd) => GG Γ X (d + 1) 4 (QI Q) 52 [some (.ref (gad Γ 0)), some (.int p1), some (.int l2), none] [] w)
    (fun (l2 : Int32) (l3 : Int32) (w : Wd) => GG Γ X (d + 1) 4 (QI Q) 62 [some (.ref (gad Γ 0)), some (.int p1), some (.int l2), some (.int l3)] [] w)
    (by
        intro l2 w h
        refine G_iload_n hO dX5_again_23 rfl rfl ?_
        refine G_bipush (v := 40) hO dX5_again_24 rfl ?_
        refine G_icmp_ge (tgt := 48) hO dX5_again_26 (by decide) (fun c7 => ?_) (fun c7 => ?_)
        · have h := h.1 c7
          refine G_iconst (v := -1) hO dX5_again_48 rfl ?_
          exact G_iret hO dX5_again_49 rfl rfl (QI.i h)
        · have h := h.2 c7
          refine G_aload_n hO dX5_again_29 rfl rfl ?_
          refine G_iload_n hO dX5_again_30 rfl rfl ?_
          refine G_iload_n hO dX5_again_31 rfl rfl ?_
          refine G_iconst (v := 1) hO dX5_again_32 rfl ?_
          refine G_iadd hO dX5_again_33 ?_
          refine G_callVi hO dX5_again_34 h cl_X5_264 (ShM.c0 hC) rfl rfl (Nat.le_of_ble_eq_true rfl) (fun r8 w9 h => ?_) rfl
          refine G_if_eq (tgt := 42) hO dX5_again_37 (by decide) (fun c10 => ?_) (fun c10 => ?_)
          · have h := h.1 c10
            refine G_iinc (v := (l2 + 1)) (lv2 := [some (.ref (gad Γ 0)), none, some (.int (l2 + 1)), none]) hO dX5_again_42 rfl rfl (by decide) rfl rfl ?_
            refine G_goto (tgt := 23) hO dX5_again_45 (by decide) ?_
            exact GG.sub (lv2 := [some (.ref (gad Γ 0)), none, some (.int (l2 + 1)), none]) ⟨rfl, ⟨rfl, trivial⟩⟩ h
          · have h := h.2 c10
            refine G_iload_n hO dX5_again_40 rfl rfl ?_
            exact G_iret hO dX5_again_41 rfl rfl (QI.i h))
    (by
        intro l2 w h
        refine G_iload_n hO dX5_again_52 rfl rfl ?_
        refine G_bipush (v := 41) hO dX5_again_53 rfl ?_
        refine G_icmp_ge (tgt := 99) hO dX5_again_55 (by decide) (fun c11 => ?_) (fun c11 => ?_)
        · have h := h.1 c11
          refine G_iconst (v := -1) hO dX5_again_99 rfl ?_
          exact G_iret hO dX5_again_100 rfl rfl (QI.i h)
        · have h := h.2 c11
          refine G_iload_n hO dX5_again_58 rfl rfl ?_
          refine G_iconst (v := 1) hO dX5_again_59 rfl ?_
          refine G_isub hO dX5_again_60 ?_
          refine G_istore_n (lv2 := [some (.ref (gad Γ 0)), some (.int p1), some (.int l2), some (.int (l2 - (1 : Int32)))]) hO dX5_again_61 rfl (by decide) rfl rfl ?_
          exact GG.sub (lv2 := [some (.ref (gad Γ 0)), some (.int p1), some (.int l2), some (.int (l2 - (1 : Int32)))]) ⟨rfl, ⟨rfl, ⟨rfl, ⟨rfl, trivial⟩⟩⟩⟩ h)
    (by
        intro l2 l3 w h
        refine G_iload_n hO dX5_again_62 rfl rfl ?_
        refine G_if_lt (tgt := 93) hO dX5_again_63 (by decide) (fun c12 => ?_) (fun c12 => ?_)
        · have h := h.1 c12
          refine G_iinc (v := (l2 + 1)) (lv2 := [some (.ref (gad Γ 0)), some (.int p1), some (.int (l2 + 1)), some (.int l3)]) hO dX5_again_93 rfl rfl (by decide) rfl rfl ?_
          refine G_goto (tgt := 52) hO dX5_again_96 (by decide) ?_
          exact GG.sub (lv2 := [some (.ref (gad Γ 0)), some (.int p1), some (.int (l2 + 1)), none]) ⟨rfl, ⟨rfl, ⟨rfl, trivial⟩⟩⟩ h
        · have h := h.2 c12
          refine G_aload_n hO dX5_again_66 rfl rfl ?_
          refine G_iload_n hO dX5_again_67 rfl rfl ?_
          refine G_iload_n hO dX5_again_68 rfl rfl ?_
          refine G_callVi hO dX5_again_69 h cl_X5_264 (ShM.c0 hC) rfl rfl (Nat.le_of_ble_eq_true rfl) (fun r13 w14 h => ?_) rfl
          refine G_if_eq (tgt := 87) hO dX5_again_72 (by decide) (fun c15 => ?_) (fun c15 => ?_)
          · have h := h.1 c15
            refine G_iinc (v := (l3 + (-1))) (lv2 := [some (.ref (gad Γ 0)), some (.int p1), some (.int l2), some (.int (l3 + (-1)))]) hO dX5_again_87 rfl rfl (by decide) rfl rfl ?_
            refine G_goto (tgt := 62) hO dX5_again_90 (by decide) ?_
            exact GG.sub (lv2 := [some (.ref (gad Γ 0)), some (.int p1), some (.int l2), some (.int (l3 + (-1)))]) ⟨rfl, ⟨rfl, ⟨rfl, ⟨rfl, trivial⟩⟩⟩⟩ h
          · have h := h.2 c15
            refine G_iload_n hO dX5_again_75 rfl rfl ?_
            refine G_if_ne (tgt := 83) hO dX5_again_76 (by decide) (fun c16 => ?_) (fun c16 => ?_)
            · have h := h.1 c16
              refine G_iload_n hO dX5_again_83 rfl rfl ?_
              refine G_iload_n hO dX5_again_84 rfl rfl ?_
              refine G_isub hO dX5_again_85 ?_
              exact G_iret hO dX5_again_86 rfl rfl (QI.i h)
            · have h := h.2 c16
              refine G_iload_n hO dX5_again_79 rfl rfl ?_
              refine G_goto (tgt := 86) hO dX5_again_80 (by decide) ?_
              exact G_iret hO dX5_again_86 rfl rfl (QI.i h))
  refine G_iload_n hO dX5_again_0 rfl rfl ?_
  refine G_iconst (v := 0) hO dX5_again_1 rfl ?_
  refine G_iconst (v := 2) hO dX5_again_2 rfl ?_
  refine G_callSi hO dX5_again_3 h cl_X5_82 rfl (Nat.le_of_ble_eq_true rfl) (fun r1 w2 h => ?_) rfl
  refine G_if_ne (tgt := 12) hO dX5_again_6 (by decide) (fun c3 => ?_) (fun c3 => ?_)
  · have h := h.1 c3
    refine G_aload_n hO dX5_again_12 rfl rfl ?_
    refine G_callVv hO dX5_again_13 h cl_X5_261 (ShM.c0 hC) rfl rfl (Nat.le_of_ble_eq_true rfl) (fun w5 h => ?_) rfl
    refine G_iload_n hO dX5_again_16 rfl rfl ?_
    refine G_iconst (v := 2) hO dX5_again_17 rfl ?_
    refine G_icmp_ne (tgt := 50) hO dX5_again_18 (by decide) (fun c6 => ?_) (fun c6 => ?_)
    · have h := h.1 c6
      refine G_iconst (v := 1) hO dX5_again_50 rfl ?_
      refine G_istore_n (lv2 := [some (.ref (gad Γ 0)), some (.int p1), some (.int (1 : Int32)), none]) hO dX5_again_51 rfl (by decide) rfl rfl ?_
      exact GG.sub (lv2 := [some (.ref (gad Γ 0)), some (.int p1), some (.int (1 : Int32)), none]) ⟨rfl, ⟨rfl, ⟨rfl, trivial⟩⟩⟩ h
    · have h := h.2 c6
      refine G_iconst (v := 0) hO dX5_again_21 rfl ?_
      refine G_istore_n (lv2 := [some (.ref (gad Γ 0)), some (.int p1), some (.int (0 : Int32)), none]) hO dX5_again_22 rfl (by decide) rfl rfl ?_
      exact GG.sub (lv2 := [some (.ref (gad Γ 0)), none, some (.int (0 : Int32)), none]) ⟨rfl, ⟨rfl, trivial⟩⟩ h
  · have h := h.2 c3
    refine G_bipush (v := -2) hO dX5_again_9 rfl ?_
    exact G_iret hO dX5_again_11 rfl rfl (QI.i h)
def wp_X5_lettuce (Γ : Gx) (d : Nat) (p1 : Int32) (w : Wd) (Q : Int32 → Wd → Prop) : Prop :=
  ∀ (P_7 : Int32 → Int32 → Int32 → Wd → Prop),
  ∀ (P_19 : Int32 → Int32 → Int32 → Int32 → Wd → Prop),
  (∀ (l2 : Int32) (l3 : Int32) (l4 : Int32) (w : Wd), (((w 0 2) ≤ l4 → ((¬ p1 = 0 → Q l3 w) ∧ (p1 = 0 → Q l2 w))) ∧ (¬ (w 0 2) ≤ l4 → P_19 l2 l3 l4 (0 : Int32) w)) → P_7 l2 l3 l4 w) →
  (∀ (l2 : Int32) (l3 : Int32) (l4 : Int32) (l5 : Int32) (w : Wd), (((w 0 2) ≤ l5 → P_7 l2 l3 (l4 + 1) w) ∧ (¬ (w 0 2) ≤ l5 → ((l4 = l5 → P_19 l2 l3 l4 (l5 + 1) w) ∧ (¬ l4 = l5 → CI Γ d M_X5_made [.ref (gad Γ 0), .int l4, .int l5] w (fun r5 w6 => ((r5 = (1 : Int32) → ((¬ l3 = (-1 : Int32) → P_19 (l2 + 1) l3 l4 (l5 + 1) w6) ∧ (l3 = (-1 : Int32) → P_19 (l2 + 1) (((10 : Int32) * l4) + l5) l4 (l5 + 1) w6))) ∧ (¬ r5 = (1 : Int32) → P_19 l2 l3 l4 (l5 + 1) w6))))))) → P_19 l2 l3 l4 l5 w) →
  P_7 (0 : Int32) (-1 : Int32) (0 : Int32) w
set_option maxRecDepth 20000 in
theorem con_X5_lettuce {Γ : Gx} {d : Nat} (hG : GM Γ) {p1 : Int32}  {w : Wd} {Q : Int32 → Wd → Prop} (h : wp_X5_lettuce Γ d p1 w Q) : CI Γ (d + 1) M_X5_lettuce [.ref (gad Γ 0), .int p1] w Q := by
  have hC := hG.2
  refine Con.of RX5 cX5_lettuce 6 (some .int) [some (.ref (gad Γ 0)), some (.int p1), none, none, none, none] rfl rfl (by decide +kernel) hG.1 (catR (catI cat0)) (Nat.le_of_ble_eq_true rfl) rfl ?_
  intro X hO
  have h := h
    (fun (l2 : Int32) (l3 : Int32) (l4 : Int32) (w : Wd) => GG Γ X (d + 1) 6 (QI Q) 7 [some (.ref (gad Γ 0)), some (.int p1), some (.int l2), some (.int l3), some (.int l4), none] [] w)
    (fun (l2 : Int32) (l3 : Int32) (l4 : Int32) (l5 : Int32) (w : Wd) => GG Γ X (d + 1) 6 (QI Q) 19 [some (.ref (gad Γ 0)), some (.int p1), some (.int l2), some (.int l3), some (.int l4), some (.int l5)] [] w)
    (by
        intro l2 l3 l4 w h
        refine G_iload hO dX5_lettuce_7 rfl ?_
        refine G_aload_n hO dX5_lettuce_9 rfl rfl ?_
        refine gi_X5_79 hO dX5_lettuce_10 (ShM.c0 hC) rfl ?_
        refine G_icmp_ge (tgt := 79) hO dX5_lettuce_13 (by decide) (fun c1 => ?_) (fun c1 => ?_)
        · have h := h.1 c1
          refine G_iload_n hO dX5_lettuce_79 rfl rfl ?_
          refine G_if_ne (tgt := 87) hO dX5_lettuce_80 (by decide) (fun c2 => ?_) (fun c2 => ?_)
          · have h := h.1 c2
            refine G_iload_n hO dX5_lettuce_87 rfl rfl ?_
            exact G_iret hO dX5_lettuce_88 rfl rfl (QI.i h)
          · have h := h.2 c2
            refine G_iload_n hO dX5_lettuce_83 rfl rfl ?_
            refine G_goto (tgt := 88) hO dX5_lettuce_84 (by decide) ?_
            exact G_iret hO dX5_lettuce_88 rfl rfl (QI.i h)
        · have h := h.2 c1
          refine G_iconst (v := 0) hO dX5_lettuce_16 rfl ?_
          refine G_istore (lv2 := [some (.ref (gad Γ 0)), some (.int p1), some (.int l2), some (.int l3), some (.int l4), some (.int (0 : Int32))]) hO dX5_lettuce_17 (by decide) rfl rfl ?_
          exact GG.sub (lv2 := [some (.ref (gad Γ 0)), some (.int p1), some (.int l2), some (.int l3), some (.int l4), some (.int (0 : Int32))]) ⟨rfl, ⟨rfl, ⟨rfl, ⟨rfl, ⟨rfl, ⟨rfl, trivial⟩⟩⟩⟩⟩⟩ h)
    (by
        intro l2 l3 l4 l5 w h
        refine G_iload hO dX5_lettuce_19 rfl ?_
        refine G_aload_n hO dX5_lettuce_21 rfl rfl ?_
        refine gi_X5_79 hO dX5_lettuce_22 (ShM.c0 hC) rfl ?_
        refine G_icmp_ge (tgt := 73) hO dX5_lettuce_25 (by decide) (fun c3 => ?_) (fun c3 => ?_)
        · have h := h.1 c3
          refine G_iinc (v := (l4 + 1)) (lv2 := [some (.ref (gad Γ 0)), some (.int p1), some (.int l2), some (.int l3), some (.int (l4 + 1)), some (.int l5)]) hO dX5_lettuce_73 rfl rfl (by decide) rfl rfl ?_
          refine G_goto (tgt := 7) hO dX5_lettuce_76 (by decide) ?_
          exact GG.sub (lv2 := [some (.ref (gad Γ 0)), some (.int p1), some (.int l2), some (.int l3), some (.int (l4 + 1)), none]) ⟨rfl, ⟨rfl, ⟨rfl, ⟨rfl, ⟨rfl, trivial⟩⟩⟩⟩⟩ h
        · have h := h.2 c3
          refine G_iload hO dX5_lettuce_28 rfl ?_
          refine G_iload hO dX5_lettuce_30 rfl ?_
          refine G_icmp_eq (tgt := 67) hO dX5_lettuce_32 (by decide) (fun c4 => ?_) (fun c4 => ?_)
          · have h := h.1 c4
            refine G_iinc (v := (l5 + 1)) (lv2 := [some (.ref (gad Γ 0)), some (.int p1), some (.int l2), some (.int l3), some (.int l4), some (.int (l5 + 1))]) hO dX5_lettuce_67 rfl rfl (by decide) rfl rfl ?_
            refine G_goto (tgt := 19) hO dX5_lettuce_70 (by decide) ?_
            exact GG.sub (lv2 := [some (.ref (gad Γ 0)), some (.int p1), some (.int l2), some (.int l3), some (.int l4), some (.int (l5 + 1))]) ⟨rfl, ⟨rfl, ⟨rfl, ⟨rfl, ⟨rfl, ⟨rfl, trivial⟩⟩⟩⟩⟩⟩ h
          · have h := h.2 c4
            refine G_aload_n hO dX5_lettuce_35 rfl rfl ?_
            refine G_iload hO dX5_lettuce_36 rfl ?_
            refine G_iload hO dX5_lettuce_38 rfl ?_
            refine G_callVi hO dX5_lettuce_40 h cl_X5_107 (ShM.c0 hC) rfl rfl (Nat.le_of_ble_eq_true rfl) (fun r5 w6 h => ?_) rfl
            refine G_iconst (v := 1) hO dX5_lettuce_43 rfl ?_
            refine G_icmp_eq (tgt := 50) hO dX5_lettuce_44 (by decide) (fun c7 => ?_) (fun c7 => ?_)
            · have h := h.1 c7
              refine G_iinc (v := (l2 + 1)) (lv2 := [some (.ref (gad Γ 0)), some (.int p1), some (.int (l2 + 1)), some (.int l3), some (.int l4), some (.int l5)]) hO dX5_lettuce_50 rfl rfl (by decide) rfl rfl ?_
              refine G_iload_n hO dX5_lettuce_53 rfl rfl ?_
              refine G_iconst (v := -1) hO dX5_lettuce_54 rfl ?_
              refine G_icmp_ne (tgt := 67) hO dX5_lettuce_55 (by decide) (fun c8 => ?_) (fun c8 => ?_)
              · have h := h.1 c8
                refine G_iinc (v := (l5 + 1)) (lv2 := [some (.ref (gad Γ 0)), some (.int p1), some (.int (l2 + 1)), some (.int l3), some (.int l4), some (.int (l5 + 1))]) hO dX5_lettuce_67 rfl rfl (by decide) rfl rfl ?_
                refine G_goto (tgt := 19) hO dX5_lettuce_70 (by decide) ?_
                exact GG.sub (lv2 := [some (.ref (gad Γ 0)), some (.int p1), some (.int (l2 + 1)), some (.int l3), some (.int l4), some (.int (l5 + 1))]) ⟨rfl, ⟨rfl, ⟨rfl, ⟨rfl, ⟨rfl, ⟨rfl, trivial⟩⟩⟩⟩⟩⟩ h
              · have h := h.2 c8
                refine G_bipush (v := 10) hO dX5_lettuce_58 rfl ?_
                refine G_iload hO dX5_lettuce_60 rfl ?_
                refine G_imul hO dX5_lettuce_62 ?_
                refine G_iload hO dX5_lettuce_63 rfl ?_
                refine G_iadd hO dX5_lettuce_65 ?_
                refine G_istore_n (lv2 := [some (.ref (gad Γ 0)), some (.int p1), some (.int (l2 + 1)), some (.int (((10 : Int32) * l4) + l5)), some (.int l4), some (.int l5)]) hO dX5_lettuce_66 rfl (by decide) rfl rfl ?_
                refine G_iinc (v := (l5 + 1)) (lv2 := [some (.ref (gad Γ 0)), some (.int p1), some (.int (l2 + 1)), some (.int (((10 : Int32) * l4) + l5)), some (.int l4), some (.int (l5 + 1))]) hO dX5_lettuce_67 rfl rfl (by decide) rfl rfl ?_
                refine G_goto (tgt := 19) hO dX5_lettuce_70 (by decide) ?_
                exact GG.sub (lv2 := [some (.ref (gad Γ 0)), some (.int p1), some (.int (l2 + 1)), some (.int (((10 : Int32) * l4) + l5)), some (.int l4), some (.int (l5 + 1))]) ⟨rfl, ⟨rfl, ⟨rfl, ⟨rfl, ⟨rfl, ⟨rfl, trivial⟩⟩⟩⟩⟩⟩ h
            · have h := h.2 c7
              refine G_goto (tgt := 67) hO dX5_lettuce_47 (by decide) ?_
              refine G_iinc (v := (l5 + 1)) (lv2 := [some (.ref (gad Γ 0)), some (.int p1), some (.int l2), some (.int l3), some (.int l4), some (.int (l5 + 1))]) hO dX5_lettuce_67 rfl rfl (by decide) rfl rfl ?_
              refine G_goto (tgt := 19) hO dX5_lettuce_70 (by decide) ?_
              exact GG.sub (lv2 := [some (.ref (gad Γ 0)), some (.int p1), some (.int l2), some (.int l3), some (.int l4), some (.int (l5 + 1))]) ⟨rfl, ⟨rfl, ⟨rfl, ⟨rfl, ⟨rfl, ⟨rfl, trivial⟩⟩⟩⟩⟩⟩ h)
  refine G_iconst (v := 0) hO dX5_lettuce_0 rfl ?_
  refine G_istore_n (lv2 := [some (.ref (gad Γ 0)), some (.int p1), some (.int (0 : Int32)), none, none, none]) hO dX5_lettuce_1 rfl (by decide) rfl rfl ?_
  refine G_iconst (v := -1) hO dX5_lettuce_2 rfl ?_
  refine G_istore_n (lv2 := [some (.ref (gad Γ 0)), some (.int p1), some (.int (0 : Int32)), some (.int (-1 : Int32)), none, none]) hO dX5_lettuce_3 rfl (by decide) rfl rfl ?_
  refine G_iconst (v := 0) hO dX5_lettuce_4 rfl ?_
  refine G_istore (lv2 := [some (.ref (gad Γ 0)), some (.int p1), some (.int (0 : Int32)), some (.int (-1 : Int32)), some (.int (0 : Int32)), none]) hO dX5_lettuce_5 (by decide) rfl rfl ?_
  exact GG.sub (lv2 := [some (.ref (gad Γ 0)), some (.int p1), some (.int (0 : Int32)), some (.int (-1 : Int32)), some (.int (0 : Int32)), none]) ⟨rfl, ⟨rfl, ⟨rfl, ⟨rfl, ⟨rfl, trivial⟩⟩⟩⟩⟩ h
def wp_X5_left (Γ : Gx) (d : Nat)  (w : Wd) (Q : Int32 → Wd → Prop) : Prop :=
  ∀ (P_4 : Int32 → Int32 → Wd → Prop),
  (∀ (l1 : Int32) (l2 : Int32) (w : Wd), (((w 0 2) ≤ l2 → Q l1 w) ∧ (¬ (w 0 2) ≤ l2 → CI Γ d M_X5_gotten [.ref (gad Γ 0), .int l2] w (fun r2 w3 => ((¬ r2 = 0 → P_4 l1 (l2 + 1) w3) ∧ (r2 = 0 → P_4 (l1 ||| ((1 : Int32) <<< (l2 &&& 31))) (l2 + 1) w3))))) → P_4 l1 l2 w) →
  P_4 (0 : Int32) (0 : Int32) w
set_option maxRecDepth 20000 in
theorem con_X5_left {Γ : Gx} {d : Nat} (hG : GM Γ)   {w : Wd} {Q : Int32 → Wd → Prop} (h : wp_X5_left Γ d  w Q) : CI Γ (d + 1) M_X5_left [.ref (gad Γ 0)] w Q := by
  have hC := hG.2
  refine Con.of RX5 cX5_left 3 (some .int) [some (.ref (gad Γ 0)), none, none] rfl rfl (by decide +kernel) hG.1 (catR cat0) (Nat.le_of_ble_eq_true rfl) rfl ?_
  intro X hO
  have h := h
    (fun (l1 : Int32) (l2 : Int32) (w : Wd) => GG Γ X (d + 1) 3 (QI Q) 4 [some (.ref (gad Γ 0)), some (.int l1), some (.int l2)] [] w)
    (by
        intro l1 l2 w h
        refine G_iload_n hO dX5_left_4 rfl rfl ?_
        refine G_aload_n hO dX5_left_5 rfl rfl ?_
        refine gi_X5_79 hO dX5_left_6 (ShM.c0 hC) rfl ?_
        refine G_icmp_ge (tgt := 32) hO dX5_left_9 (by decide) (fun c1 => ?_) (fun c1 => ?_)
        · have h := h.1 c1
          refine G_iload_n hO dX5_left_32 rfl rfl ?_
          exact G_iret hO dX5_left_33 rfl rfl (QI.i h)
        · have h := h.2 c1
          refine G_aload_n hO dX5_left_12 rfl rfl ?_
          refine G_iload_n hO dX5_left_13 rfl rfl ?_
          refine G_callVi hO dX5_left_14 h cl_X5_117 (ShM.c0 hC) rfl rfl (Nat.le_of_ble_eq_true rfl) (fun r2 w3 h => ?_) rfl
          refine G_if_ne (tgt := 26) hO dX5_left_17 (by decide) (fun c4 => ?_) (fun c4 => ?_)
          · have h := h.1 c4
            refine G_iinc (v := (l2 + 1)) (lv2 := [some (.ref (gad Γ 0)), some (.int l1), some (.int (l2 + 1))]) hO dX5_left_26 rfl rfl (by decide) rfl rfl ?_
            refine G_goto (tgt := 4) hO dX5_left_29 (by decide) ?_
            exact GG.sub (lv2 := [some (.ref (gad Γ 0)), some (.int l1), some (.int (l2 + 1))]) ⟨rfl, ⟨rfl, ⟨rfl, trivial⟩⟩⟩ h
          · have h := h.2 c4
            refine G_iload_n hO dX5_left_20 rfl rfl ?_
            refine G_iconst (v := 1) hO dX5_left_21 rfl ?_
            refine G_iload_n hO dX5_left_22 rfl rfl ?_
            refine G_ishl hO dX5_left_23 ?_
            refine G_ior hO dX5_left_24 ?_
            refine G_istore_n (lv2 := [some (.ref (gad Γ 0)), some (.int (l1 ||| ((1 : Int32) <<< (l2 &&& 31)))), some (.int l2)]) hO dX5_left_25 rfl (by decide) rfl rfl ?_
            refine G_iinc (v := (l2 + 1)) (lv2 := [some (.ref (gad Γ 0)), some (.int (l1 ||| ((1 : Int32) <<< (l2 &&& 31)))), some (.int (l2 + 1))]) hO dX5_left_26 rfl rfl (by decide) rfl rfl ?_
            refine G_goto (tgt := 4) hO dX5_left_29 (by decide) ?_
            exact GG.sub (lv2 := [some (.ref (gad Γ 0)), some (.int (l1 ||| ((1 : Int32) <<< (l2 &&& 31)))), some (.int (l2 + 1))]) ⟨rfl, ⟨rfl, ⟨rfl, trivial⟩⟩⟩ h)
  refine G_iconst (v := 0) hO dX5_left_0 rfl ?_
  refine G_istore_n (lv2 := [some (.ref (gad Γ 0)), some (.int (0 : Int32)), none]) hO dX5_left_1 rfl (by decide) rfl rfl ?_
  refine G_iconst (v := 0) hO dX5_left_2 rfl ?_
  refine G_istore_n (lv2 := [some (.ref (gad Γ 0)), some (.int (0 : Int32)), some (.int (0 : Int32))]) hO dX5_left_3 rfl (by decide) rfl rfl ?_
  exact GG.sub (lv2 := [some (.ref (gad Γ 0)), some (.int (0 : Int32)), some (.int (0 : Int32))]) ⟨rfl, ⟨rfl, ⟨rfl, trivial⟩⟩⟩ h
def wp_X5_all (Γ : Gx) (d : Nat) (p1 : Int32) (w : Wd) (Q : Int32 → Wd → Prop) : Prop :=
  (((p1 = (0 : Int32)) → CI Γ d M_X5_glad [.ref (gad Γ 0)] w (fun r1 w2 => Q r1 w2)) ∧ ((p1 = (1 : Int32)) → CI Γ d M_X5_lettuce [.ref (gad Γ 0), .int (0 : Int32)] w (fun r3 w4 => Q r3 w4)) ∧ ((p1 = (2 : Int32)) → CI Γ d M_X5_lettuce [.ref (gad Γ 0), .int (1 : Int32)] w (fun r5 w6 => Q r5 w6)) ∧ ((p1 = (3 : Int32)) → CI Γ d M_X5_left [.ref (gad Γ 0)] w (fun r7 w8 => Q r7 w8)) ∧ ((¬ p1 = (0 : Int32) ∧ ¬ p1 = (1 : Int32) ∧ ¬ p1 = (2 : Int32) ∧ ¬ p1 = (3 : Int32)) → Q (-1000 : Int32) w))
set_option maxRecDepth 20000 in
theorem con_X5_all {Γ : Gx} {d : Nat} (hG : GM Γ) {p1 : Int32}  {w : Wd} {Q : Int32 → Wd → Prop} (h : wp_X5_all Γ d p1 w Q) : CI Γ (d + 1) M_X5_all [.ref (gad Γ 0), .int p1] w Q := by
  have hC := hG.2
  refine Con.of RX5 cX5_all 2 (some .int) [some (.ref (gad Γ 0)), some (.int p1)] rfl rfl (by decide +kernel) hG.1 (catR (catI cat0)) (Nat.le_of_ble_eq_true rfl) rfl ?_
  intro X hO
  refine G_iload_n hO dX5_all_0 rfl rfl ?_
  by_cases e0 : p1 = (0 : Int32)
  · have h := h.1 e0
    refine G_tabIn (tgt := 32) (j := 0) hO dX5_all_1 (by decide) rfl (sweq e0 (by decide)) (by decide) ?_
    refine G_aload_n hO dX5_all_32 rfl rfl ?_
    refine G_callVi hO dX5_all_33 h cl_X5_249 (ShM.c0 hC) rfl rfl (Nat.le_of_ble_eq_true rfl) (fun r1 w2 h => ?_) rfl
    exact G_iret hO dX5_all_36 rfl rfl (QI.i h)
  · by_cases e1 : p1 = (1 : Int32)
    · have h := h.2.1 e1
      refine G_tabIn (tgt := 37) (j := 1) hO dX5_all_1 (by decide) rfl (sweq e1 (by decide)) (by decide) ?_
      refine G_aload_n hO dX5_all_37 rfl rfl ?_
      refine G_iconst (v := 0) hO dX5_all_38 rfl ?_
      refine G_callVi hO dX5_all_39 h cl_X5_267 (ShM.c0 hC) rfl rfl (Nat.le_of_ble_eq_true rfl) (fun r3 w4 h => ?_) rfl
      exact G_iret hO dX5_all_42 rfl rfl (QI.i h)
    · by_cases e2 : p1 = (2 : Int32)
      · have h := h.2.2.1 e2
        refine G_tabIn (tgt := 43) (j := 2) hO dX5_all_1 (by decide) rfl (sweq e2 (by decide)) (by decide) ?_
        refine G_aload_n hO dX5_all_43 rfl rfl ?_
        refine G_iconst (v := 1) hO dX5_all_44 rfl ?_
        refine G_callVi hO dX5_all_45 h cl_X5_267 (ShM.c0 hC) rfl rfl (Nat.le_of_ble_eq_true rfl) (fun r5 w6 h => ?_) rfl
        exact G_iret hO dX5_all_48 rfl rfl (QI.i h)
      · by_cases e3 : p1 = (3 : Int32)
        · have h := h.2.2.2.1 e3
          refine G_tabIn (tgt := 49) (j := 3) hO dX5_all_1 (by decide) rfl (sweq e3 (by decide)) (by decide) ?_
          refine G_aload_n hO dX5_all_49 rfl rfl ?_
          refine G_callVi hO dX5_all_50 h cl_X5_270 (ShM.c0 hC) rfl rfl (Nat.le_of_ble_eq_true rfl) (fun r7 w8 h => ?_) rfl
          exact G_iret hO dX5_all_53 rfl rfl (QI.i h)
        · have h := h.2.2.2.2 ⟨e0, e1, e2, e3⟩
          refine G_tabOut (tgt := 54) hO dX5_all_1 (by decide) (by decide) (fun j hj => ?_) ?_
          · rcases (show j = 0 ∨ j = 1 ∨ j = 2 ∨ j = 3 from by have : j < 4 := hj; omega) with rfl | rfl | rfl | rfl
            · exact swne e0 (by decide)
            · exact swne e1 (by decide)
            · exact swne e2 (by decide)
            · exact swne e3 (by decide)
          · refine G_sipush (v := -1000) hO dX5_all_54 rfl ?_
            exact G_iret hO dX5_all_57 rfl rfl (QI.i h)
def wp_X5_best (Γ : Gx) (d : Nat) (p1 : Int32) (p2 : Int32) (p3 : Int32) (w : Wd) (Q : Int32 → Wd → Prop) : Prop :=
  ∀ (P_51 : Int32 → Int32 → Int32 → Int32 → Wd → Prop),
  (∀ (l4 : Int32) (l5 : Int32) (l6 : Int32) (l7 : Int32) (w : Wd), (((21 : Int32) ≤ l7 → (vp_in p1 5 ∧ (∀ w13 : Wd, w13 = wset w 4 (p1).toNatClampNeg l4 → ((¬ p3 = 0 → Q l6 w13) ∧ (p3 = 0 → Q l5 w13))))) ∧ (¬ (21 : Int32) ≤ l7 → (vp_in p1 5 ∧ (∀ w17 : Wd, w17 = wset w 4 (p1).toNatClampNeg l7 → CI Γ d M_X5_gladBehind [.ref (gad Γ 0), .int p2] w17 (fun r19 w20 => ((l6 < r19 → P_51 l4 l7 r19 (l7 + 1) w20) ∧ (¬ l6 < r19 → P_51 l4 l5 l6 (l7 + 1) w20))))))) → P_51 l4 l5 l6 l7 w) →
  CI Γ d M_X5_isOne [.ref (gad Γ 0), .int p1] w (fun r1 w2 => ((r1 = 0 → Q (-1000 : Int32) w2) ∧ (¬ r1 = 0 → CI Γ d M_X5_within [.int p2, .int (0 : Int32), .int (10 : Int32)] w2 (fun r4 w5 => ((r4 = 0 → Q (-1000 : Int32) w5) ∧ (¬ r4 = 0 → CI Γ d M_X5_within [.int p3, .int (0 : Int32), .int (1 : Int32)] w5 (fun r7 w8 => ((¬ r7 = 0 → (vp_in p1 5 ∧ P_51 (w8 4 (p1).toNatClampNeg) (0 : Int32) (-1000 : Int32) (-20 : Int32) w8)) ∧ (r7 = 0 → Q (-1000 : Int32) w8)))))))))
set_option maxRecDepth 20000 in
theorem con_X5_best {Γ : Gx} {d : Nat} (hG : GM Γ) {p1 : Int32} {p2 : Int32} {p3 : Int32}  {w : Wd} {Q : Int32 → Wd → Prop} (h : wp_X5_best Γ d p1 p2 p3 w Q) : CI Γ (d + 1) M_X5_best [.ref (gad Γ 0), .int p1, .int p2, .int p3] w Q := by
  have hC := hG.2
  refine Con.of RX5 cX5_best 9 (some .int) [some (.ref (gad Γ 0)), some (.int p1), some (.int p2), some (.int p3), none, none, none, none, none] rfl rfl (by decide +kernel) hG.1 (catR (catI (catI (catI cat0)))) (Nat.le_of_ble_eq_true rfl) rfl ?_
  intro X hO
  have h := h
    (fun (l4 : Int32) (l5 : Int32) (l6 : Int32) (l7 : Int32) (w : Wd) => GG Γ X (d + 1) 9 (QI Q) 51 [some (.ref (gad Γ 0)), some (.int p1), some (.int p2), some (.int p3), some (.int l4), some (.int l5), some (.int l6), some (.int l7), none] [] w)
    (by
        intro l4 l5 l6 l7 w h
        refine G_iload hO dX5_best_51 rfl ?_
        refine G_bipush (v := 21) hO dX5_best_53 rfl ?_
        refine G_icmp_ge (tgt := 97) hO dX5_best_55 (by decide) (fun c11 => ?_) (fun c11 => ?_)
        · have h := h.1 c11
          refine G_aload_n hO dX5_best_97 rfl rfl ?_
          refine gr_X5_20 (c := 4) hO dX5_best_98 (ShM.c0 hC) rfl ?_
          refine G_iload_n hO dX5_best_101 rfl rfl ?_
          refine G_iload hO dX5_best_102 rfl ?_
          obtain ⟨c12, h⟩ := h
          refine G_iastore hO dX5_best_104 (ShM.c4 hC) c12 ?_
          refine GG.nmw (fun w13 e14 => ?_)
          have h := h w13 e14
          refine G_iload_n hO dX5_best_105 rfl rfl ?_
          refine G_if_ne (tgt := 114) hO dX5_best_106 (by decide) (fun c15 => ?_) (fun c15 => ?_)
          · have h := h.1 c15
            refine G_iload hO dX5_best_114 rfl ?_
            exact G_iret hO dX5_best_116 rfl rfl (QI.i h)
          · have h := h.2 c15
            refine G_iload hO dX5_best_109 rfl ?_
            refine G_goto (tgt := 116) hO dX5_best_111 (by decide) ?_
            exact G_iret hO dX5_best_116 rfl rfl (QI.i h)
        · have h := h.2 c11
          refine G_aload_n hO dX5_best_58 rfl rfl ?_
          refine gr_X5_20 (c := 4) hO dX5_best_59 (ShM.c0 hC) rfl ?_
          refine G_iload_n hO dX5_best_62 rfl rfl ?_
          refine G_iload hO dX5_best_63 rfl ?_
          obtain ⟨c16, h⟩ := h
          refine G_iastore hO dX5_best_65 (ShM.c4 hC) c16 ?_
          refine GG.nmw (fun w17 e18 => ?_)
          have h := h w17 e18
          refine G_aload_n hO dX5_best_66 rfl rfl ?_
          refine G_iload_n hO dX5_best_67 rfl rfl ?_
          refine G_callVi hO dX5_best_68 h cl_X5_273 (ShM.c0 hC) rfl rfl (Nat.le_of_ble_eq_true rfl) (fun r19 w20 h => ?_) rfl
          refine G_istore (lv2 := [some (.ref (gad Γ 0)), some (.int p1), some (.int p2), some (.int p3), some (.int l4), some (.int l5), some (.int l6), some (.int l7), some (.int r19)]) hO dX5_best_71 (by decide) rfl rfl ?_
          refine G_iload hO dX5_best_73 rfl ?_
          refine G_iload hO dX5_best_75 rfl ?_
          refine G_icmp_gt (tgt := 83) hO dX5_best_77 (by decide) (fun c21 => ?_) (fun c21 => ?_)
          · have h := h.1 c21
            refine G_iload hO dX5_best_83 rfl ?_
            refine G_istore (lv2 := [some (.ref (gad Γ 0)), some (.int p1), some (.int p2), some (.int p3), some (.int l4), some (.int l5), some (.int r19), some (.int l7), some (.int r19)]) hO dX5_best_85 (by decide) rfl rfl ?_
            refine G_iload hO dX5_best_87 rfl ?_
            refine G_istore (lv2 := [some (.ref (gad Γ 0)), some (.int p1), some (.int p2), some (.int p3), some (.int l4), some (.int l7), some (.int r19), some (.int l7), some (.int r19)]) hO dX5_best_89 (by decide) rfl rfl ?_
            refine G_iinc (v := (l7 + 1)) (lv2 := [some (.ref (gad Γ 0)), some (.int p1), some (.int p2), some (.int p3), some (.int l4), some (.int l7), some (.int r19), some (.int (l7 + 1)), some (.int r19)]) hO dX5_best_91 rfl rfl (by decide) rfl rfl ?_
            refine G_goto (tgt := 51) hO dX5_best_94 (by decide) ?_
            exact GG.sub (lv2 := [some (.ref (gad Γ 0)), some (.int p1), some (.int p2), some (.int p3), some (.int l4), some (.int l7), some (.int r19), some (.int (l7 + 1)), none]) ⟨rfl, ⟨rfl, ⟨rfl, ⟨rfl, ⟨rfl, ⟨rfl, ⟨rfl, ⟨rfl, trivial⟩⟩⟩⟩⟩⟩⟩⟩ h
          · have h := h.2 c21
            refine G_goto (tgt := 91) hO dX5_best_80 (by decide) ?_
            refine G_iinc (v := (l7 + 1)) (lv2 := [some (.ref (gad Γ 0)), some (.int p1), some (.int p2), some (.int p3), some (.int l4), some (.int l5), some (.int l6), some (.int (l7 + 1)), some (.int r19)]) hO dX5_best_91 rfl rfl (by decide) rfl rfl ?_
            refine G_goto (tgt := 51) hO dX5_best_94 (by decide) ?_
            exact GG.sub (lv2 := [some (.ref (gad Γ 0)), some (.int p1), some (.int p2), some (.int p3), some (.int l4), some (.int l5), some (.int l6), some (.int (l7 + 1)), none]) ⟨rfl, ⟨rfl, ⟨rfl, ⟨rfl, ⟨rfl, ⟨rfl, ⟨rfl, ⟨rfl, trivial⟩⟩⟩⟩⟩⟩⟩⟩ h)
  refine G_aload_n hO dX5_best_0 rfl rfl ?_
  refine G_iload_n hO dX5_best_1 rfl rfl ?_
  refine G_callVi hO dX5_best_2 h cl_X5_86 (ShM.c0 hC) rfl rfl (Nat.le_of_ble_eq_true rfl) (fun r1 w2 h => ?_) rfl
  refine G_if_eq (tgt := 27) hO dX5_best_5 (by decide) (fun c3 => ?_) (fun c3 => ?_)
  · have h := h.1 c3
    refine G_sipush (v := -1000) hO dX5_best_27 rfl ?_
    exact G_iret hO dX5_best_30 rfl rfl (QI.i h)
  · have h := h.2 c3
    refine G_iload_n hO dX5_best_8 rfl rfl ?_
    refine G_iconst (v := 0) hO dX5_best_9 rfl ?_
    refine G_bipush (v := 10) hO dX5_best_10 rfl ?_
    refine G_callSi hO dX5_best_12 h cl_X5_82 rfl (Nat.le_of_ble_eq_true rfl) (fun r4 w5 h => ?_) rfl
    refine G_if_eq (tgt := 27) hO dX5_best_15 (by decide) (fun c6 => ?_) (fun c6 => ?_)
    · have h := h.1 c6
      refine G_sipush (v := -1000) hO dX5_best_27 rfl ?_
      exact G_iret hO dX5_best_30 rfl rfl (QI.i h)
    · have h := h.2 c6
      refine G_iload_n hO dX5_best_18 rfl rfl ?_
      refine G_iconst (v := 0) hO dX5_best_19 rfl ?_
      refine G_iconst (v := 1) hO dX5_best_20 rfl ?_
      refine G_callSi hO dX5_best_21 h cl_X5_82 rfl (Nat.le_of_ble_eq_true rfl) (fun r7 w8 h => ?_) rfl
      refine G_if_ne (tgt := 31) hO dX5_best_24 (by decide) (fun c9 => ?_) (fun c9 => ?_)
      · have h := h.1 c9
        refine G_aload_n hO dX5_best_31 rfl rfl ?_
        refine gr_X5_20 (c := 4) hO dX5_best_32 (ShM.c0 hC) rfl ?_
        refine G_iload_n hO dX5_best_35 rfl rfl ?_
        obtain ⟨c10, h⟩ := h
        refine G_iaload hO dX5_best_36 (ShM.c4 hC) c10 ?_
        refine G_istore (lv2 := [some (.ref (gad Γ 0)), some (.int p1), some (.int p2), some (.int p3), some (.int (w8 4 (p1).toNatClampNeg)), none, none, none, none]) hO dX5_best_37 (by decide) rfl rfl ?_
        refine G_iconst (v := 0) hO dX5_best_39 rfl ?_
        refine G_istore (lv2 := [some (.ref (gad Γ 0)), some (.int p1), some (.int p2), some (.int p3), some (.int (w8 4 (p1).toNatClampNeg)), some (.int (0 : Int32)), none, none, none]) hO dX5_best_40 (by decide) rfl rfl ?_
        refine G_sipush (v := -1000) hO dX5_best_42 rfl ?_
        refine G_istore (lv2 := [some (.ref (gad Γ 0)), some (.int p1), some (.int p2), some (.int p3), some (.int (w8 4 (p1).toNatClampNeg)), some (.int (0 : Int32)), some (.int (-1000 : Int32)), none, none]) hO dX5_best_45 (by decide) rfl rfl ?_
        refine G_bipush (v := -20) hO dX5_best_47 rfl ?_
        refine G_istore (lv2 := [some (.ref (gad Γ 0)), some (.int p1), some (.int p2), some (.int p3), some (.int (w8 4 (p1).toNatClampNeg)), some (.int (0 : Int32)), some (.int (-1000 : Int32)), some (.int (-20 : Int32)), none]) hO dX5_best_49 (by decide) rfl rfl ?_
        exact GG.sub (lv2 := [some (.ref (gad Γ 0)), some (.int p1), some (.int p2), some (.int p3), some (.int (w8 4 (p1).toNatClampNeg)), some (.int (0 : Int32)), some (.int (-1000 : Int32)), some (.int (-20 : Int32)), none]) ⟨rfl, ⟨rfl, ⟨rfl, ⟨rfl, ⟨rfl, ⟨rfl, ⟨rfl, ⟨rfl, trivial⟩⟩⟩⟩⟩⟩⟩⟩ h
      · have h := h.2 c9
        refine G_sipush (v := -1000) hO dX5_best_27 rfl ?_
        exact G_iret hO dX5_best_30 rfl rfl (QI.i h)
def wp_X5_leaveOut (Γ : Gx) (d : Nat) (p1 : Int32) (p2 : Int32) (w : Wd) (Q : Int32 → Wd → Prop) : Prop :=
  ∀ (P_35 : Int32 → Int32 → Int32 → Wd → Prop),
  (∀ (l3 : Int32) (l4 : Int32) (l5 : Int32) (w : Wd), (((w 0 2) ≤ l5 → ((¬ p2 = 0 → Q l4 w) ∧ (p2 = 0 → Q l3 w))) ∧ (¬ (w 0 2) ≤ l5 → (∀ w11 : Wd, w11 = wset w 0 27 l5 → CI Γ d M_X5_gladBehind [.ref (gad Γ 0), .int p1] w11 (fun r13 w14 => (∀ w15 : Wd, w15 = wset w14 0 27 (-1 : Int32) → ((l4 < r13 → P_35 l5 r13 (l5 + 1) w15) ∧ (¬ l4 < r13 → P_35 l3 l4 (l5 + 1) w15))))))) → P_35 l3 l4 l5 w) →
  CI Γ d M_X5_within [.int p1, .int (0 : Int32), .int (40 : Int32)] w (fun r1 w2 => ((r1 = 0 → Q (-1000 : Int32) w2) ∧ (¬ r1 = 0 → CI Γ d M_X5_within [.int p2, .int (0 : Int32), .int (1 : Int32)] w2 (fun r4 w5 => ((¬ r4 = 0 → CI Γ d M_X5_gladBehind [.ref (gad Γ 0), .int p1] w5 (fun r7 w8 => P_35 (-1 : Int32) r7 (0 : Int32) w8)) ∧ (r4 = 0 → Q (-1000 : Int32) w5))))))
set_option maxRecDepth 20000 in
theorem con_X5_leaveOut {Γ : Gx} {d : Nat} (hG : GM Γ) {p1 : Int32} {p2 : Int32}  {w : Wd} {Q : Int32 → Wd → Prop} (h : wp_X5_leaveOut Γ d p1 p2 w Q) : CI Γ (d + 1) M_X5_leaveOut [.ref (gad Γ 0), .int p1, .int p2] w Q := by
  have hC := hG.2
  refine Con.of RX5 cX5_leaveOut 7 (some .int) [some (.ref (gad Γ 0)), some (.int p1), some (.int p2), none, none, none, none] rfl rfl (by decide +kernel) hG.1 (catR (catI (catI cat0))) (Nat.le_of_ble_eq_true rfl) rfl ?_
  intro X hO
  have h := h
    (fun (l3 : Int32) (l4 : Int32) (l5 : Int32) (w : Wd) => GG Γ X (d + 1) 7 (QI Q) 35 [some (.ref (gad Γ 0)), some (.int p1), some (.int p2), some (.int l3), some (.int l4), some (.int l5), none] [] w)
    (by
        intro l3 l4 l5 w h
        refine G_iload hO dX5_leaveOut_35 rfl ?_
        refine G_aload_n hO dX5_leaveOut_37 rfl rfl ?_
        refine gi_X5_79 hO dX5_leaveOut_38 (ShM.c0 hC) rfl ?_
        refine G_icmp_ge (tgt := 85) hO dX5_leaveOut_41 (by decide) (fun c9 => ?_) (fun c9 => ?_)
        · have h := h.1 c9
          refine G_iload_n hO dX5_leaveOut_85 rfl rfl ?_
          refine G_if_ne (tgt := 93) hO dX5_leaveOut_86 (by decide) (fun c10 => ?_) (fun c10 => ?_)
          · have h := h.1 c10
            refine G_iload hO dX5_leaveOut_93 rfl ?_
            exact G_iret hO dX5_leaveOut_95 rfl rfl (QI.i h)
          · have h := h.2 c10
            refine G_iload_n hO dX5_leaveOut_89 rfl rfl ?_
            refine G_goto (tgt := 95) hO dX5_leaveOut_90 (by decide) ?_
            exact G_iret hO dX5_leaveOut_95 rfl rfl (QI.i h)
        · have h := h.2 c9
          refine G_aload_n hO dX5_leaveOut_44 rfl rfl ?_
          refine G_iload hO dX5_leaveOut_45 rfl ?_
          refine pi_X5_68 hO dX5_leaveOut_47 (ShM.c0 hC) rfl ?_
          refine GG.nmw (fun w11 e12 => ?_)
          have h := h w11 e12
          refine G_aload_n hO dX5_leaveOut_50 rfl rfl ?_
          refine G_iload_n hO dX5_leaveOut_51 rfl rfl ?_
          refine G_callVi hO dX5_leaveOut_52 h cl_X5_273 (ShM.c0 hC) rfl rfl (Nat.le_of_ble_eq_true rfl) (fun r13 w14 h => ?_) rfl
          refine G_istore (lv2 := [some (.ref (gad Γ 0)), some (.int p1), some (.int p2), some (.int l3), some (.int l4), some (.int l5), some (.int r13)]) hO dX5_leaveOut_55 (by decide) rfl rfl ?_
          refine G_aload_n hO dX5_leaveOut_57 rfl rfl ?_
          refine G_iconst (v := -1) hO dX5_leaveOut_58 rfl ?_
          refine pi_X5_68 hO dX5_leaveOut_59 (ShM.c0 hC) rfl ?_
          refine GG.nmw (fun w15 e16 => ?_)
          have h := h w15 e16
          refine G_iload hO dX5_leaveOut_62 rfl ?_
          refine G_iload hO dX5_leaveOut_64 rfl ?_
          refine GG.atpc (pc2 := 66) rfl ?_
          refine G_icmp_gt (tgt := 72) hO dX5_leaveOut_66 (by decide) (fun c17 => ?_) (fun c17 => ?_)
          · have h := h.1 c17
            refine G_iload hO dX5_leaveOut_72 rfl ?_
            refine G_istore (lv2 := [some (.ref (gad Γ 0)), some (.int p1), some (.int p2), some (.int l3), some (.int r13), some (.int l5), some (.int r13)]) hO dX5_leaveOut_74 (by decide) rfl rfl ?_
            refine G_iload hO dX5_leaveOut_76 rfl ?_
            refine G_istore_n (lv2 := [some (.ref (gad Γ 0)), some (.int p1), some (.int p2), some (.int l5), some (.int r13), some (.int l5), some (.int r13)]) hO dX5_leaveOut_78 rfl (by decide) rfl rfl ?_
            refine G_iinc (v := (l5 + 1)) (lv2 := [some (.ref (gad Γ 0)), some (.int p1), some (.int p2), some (.int l5), some (.int r13), some (.int (l5 + 1)), some (.int r13)]) hO dX5_leaveOut_79 rfl rfl (by decide) rfl rfl ?_
            refine G_goto (tgt := 35) hO dX5_leaveOut_82 (by decide) ?_
            exact GG.sub (lv2 := [some (.ref (gad Γ 0)), some (.int p1), some (.int p2), some (.int l5), some (.int r13), some (.int (l5 + 1)), none]) ⟨rfl, ⟨rfl, ⟨rfl, ⟨rfl, ⟨rfl, ⟨rfl, trivial⟩⟩⟩⟩⟩⟩ h
          · have h := h.2 c17
            refine G_goto (tgt := 79) hO dX5_leaveOut_69 (by decide) ?_
            refine G_iinc (v := (l5 + 1)) (lv2 := [some (.ref (gad Γ 0)), some (.int p1), some (.int p2), some (.int l3), some (.int l4), some (.int (l5 + 1)), some (.int r13)]) hO dX5_leaveOut_79 rfl rfl (by decide) rfl rfl ?_
            refine G_goto (tgt := 35) hO dX5_leaveOut_82 (by decide) ?_
            exact GG.sub (lv2 := [some (.ref (gad Γ 0)), some (.int p1), some (.int p2), some (.int l3), some (.int l4), some (.int (l5 + 1)), none]) ⟨rfl, ⟨rfl, ⟨rfl, ⟨rfl, ⟨rfl, ⟨rfl, trivial⟩⟩⟩⟩⟩⟩ h)
  refine G_iload_n hO dX5_leaveOut_0 rfl rfl ?_
  refine G_iconst (v := 0) hO dX5_leaveOut_1 rfl ?_
  refine G_bipush (v := 40) hO dX5_leaveOut_2 rfl ?_
  refine G_callSi hO dX5_leaveOut_4 h cl_X5_82 rfl (Nat.le_of_ble_eq_true rfl) (fun r1 w2 h => ?_) rfl
  refine G_if_eq (tgt := 19) hO dX5_leaveOut_7 (by decide) (fun c3 => ?_) (fun c3 => ?_)
  · have h := h.1 c3
    refine G_sipush (v := -1000) hO dX5_leaveOut_19 rfl ?_
    exact G_iret hO dX5_leaveOut_22 rfl rfl (QI.i h)
  · have h := h.2 c3
    refine G_iload_n hO dX5_leaveOut_10 rfl rfl ?_
    refine G_iconst (v := 0) hO dX5_leaveOut_11 rfl ?_
    refine G_iconst (v := 1) hO dX5_leaveOut_12 rfl ?_
    refine G_callSi hO dX5_leaveOut_13 h cl_X5_82 rfl (Nat.le_of_ble_eq_true rfl) (fun r4 w5 h => ?_) rfl
    refine G_if_ne (tgt := 23) hO dX5_leaveOut_16 (by decide) (fun c6 => ?_) (fun c6 => ?_)
    · have h := h.1 c6
      refine G_iconst (v := -1) hO dX5_leaveOut_23 rfl ?_
      refine G_istore_n (lv2 := [some (.ref (gad Γ 0)), some (.int p1), some (.int p2), some (.int (-1 : Int32)), none, none, none]) hO dX5_leaveOut_24 rfl (by decide) rfl rfl ?_
      refine G_aload_n hO dX5_leaveOut_25 rfl rfl ?_
      refine G_iload_n hO dX5_leaveOut_26 rfl rfl ?_
      refine G_callVi hO dX5_leaveOut_27 h cl_X5_273 (ShM.c0 hC) rfl rfl (Nat.le_of_ble_eq_true rfl) (fun r7 w8 h => ?_) rfl
      refine G_istore (lv2 := [some (.ref (gad Γ 0)), some (.int p1), some (.int p2), some (.int (-1 : Int32)), some (.int r7), none, none]) hO dX5_leaveOut_30 (by decide) rfl rfl ?_
      refine G_iconst (v := 0) hO dX5_leaveOut_32 rfl ?_
      refine G_istore (lv2 := [some (.ref (gad Γ 0)), some (.int p1), some (.int p2), some (.int (-1 : Int32)), some (.int r7), some (.int (0 : Int32)), none]) hO dX5_leaveOut_33 (by decide) rfl rfl ?_
      exact GG.sub (lv2 := [some (.ref (gad Γ 0)), some (.int p1), some (.int p2), some (.int (-1 : Int32)), some (.int r7), some (.int (0 : Int32)), none]) ⟨rfl, ⟨rfl, ⟨rfl, ⟨rfl, ⟨rfl, ⟨rfl, trivial⟩⟩⟩⟩⟩⟩ h
    · have h := h.2 c6
      refine G_sipush (v := -1000) hO dX5_leaveOut_19 rfl ?_
      exact G_iret hO dX5_leaveOut_22 rfl rfl (QI.i h)
def wp_X5_spare (Γ : Gx) (d : Nat) (p1 : Int32) (p2 : Int32) (w : Wd) (Q : Int32 → Wd → Prop) : Prop :=
  ∀ (P_35 : Int32 → Int32 → Int32 → Wd → Prop),
  (∀ (l3 : Int32) (l4 : Int32) (l5 : Int32) (w : Wd), (((8 : Int32) ≤ l5 → ((¬ p2 = 0 → Q l4 w) ∧ (p2 = 0 → Q l3 w))) ∧ (¬ (8 : Int32) ≤ l5 → (vp_in l5 8 ∧ ((¬ (w 1 (l5).toNatClampNeg) = 0 → (∀ w13 : Wd, w13 = wset w 1 (l5).toNatClampNeg (0 : Int32) → CI Γ d M_X5_gladBehind [.ref (gad Γ 0), .int p1] w13 (fun r15 w16 => (∀ w17 : Wd, w17 = wset w16 1 (l5).toNatClampNeg (1 : Int32) → ((l4 < r15 → P_35 l5 r15 (l5 + 1) w17) ∧ (¬ l4 < r15 → P_35 l3 l4 (l5 + 1) w17)))))) ∧ ((w 1 (l5).toNatClampNeg) = 0 → P_35 l3 l4 (l5 + 1) w))))) → P_35 l3 l4 l5 w) →
  CI Γ d M_X5_within [.int p1, .int (0 : Int32), .int (40 : Int32)] w (fun r1 w2 => ((r1 = 0 → Q (-1000 : Int32) w2) ∧ (¬ r1 = 0 → CI Γ d M_X5_within [.int p2, .int (0 : Int32), .int (1 : Int32)] w2 (fun r4 w5 => ((¬ r4 = 0 → CI Γ d M_X5_gladBehind [.ref (gad Γ 0), .int p1] w5 (fun r7 w8 => P_35 (-1 : Int32) r7 (0 : Int32) w8)) ∧ (r4 = 0 → Q (-1000 : Int32) w5))))))
set_option maxRecDepth 20000 in
theorem con_X5_spare {Γ : Gx} {d : Nat} (hG : GM Γ) {p1 : Int32} {p2 : Int32}  {w : Wd} {Q : Int32 → Wd → Prop} (h : wp_X5_spare Γ d p1 p2 w Q) : CI Γ (d + 1) M_X5_spare [.ref (gad Γ 0), .int p1, .int p2] w Q := by
  have hC := hG.2
  refine Con.of RX5 cX5_spare 7 (some .int) [some (.ref (gad Γ 0)), some (.int p1), some (.int p2), none, none, none, none] rfl rfl (by decide +kernel) hG.1 (catR (catI (catI cat0))) (Nat.le_of_ble_eq_true rfl) rfl ?_
  intro X hO
  have h := h
    (fun (l3 : Int32) (l4 : Int32) (l5 : Int32) (w : Wd) => GG Γ X (d + 1) 7 (QI Q) 35 [some (.ref (gad Γ 0)), some (.int p1), some (.int p2), some (.int l3), some (.int l4), some (.int l5), none] [] w)
    (by
        intro l3 l4 l5 w h
        refine G_iload hO dX5_spare_35 rfl ?_
        refine G_bipush (v := 8) hO dX5_spare_37 rfl ?_
        refine G_icmp_ge (tgt := 101) hO dX5_spare_39 (by decide) (fun c9 => ?_) (fun c9 => ?_)
        · have h := h.1 c9
          refine G_iload_n hO dX5_spare_101 rfl rfl ?_
          refine G_if_ne (tgt := 109) hO dX5_spare_102 (by decide) (fun c10 => ?_) (fun c10 => ?_)
          · have h := h.1 c10
            refine G_iload hO dX5_spare_109 rfl ?_
            exact G_iret hO dX5_spare_111 rfl rfl (QI.i h)
          · have h := h.2 c10
            refine G_iload_n hO dX5_spare_105 rfl rfl ?_
            refine G_goto (tgt := 111) hO dX5_spare_106 (by decide) ?_
            exact G_iret hO dX5_spare_111 rfl rfl (QI.i h)
        · have h := h.2 c9
          refine G_aload_n hO dX5_spare_42 rfl rfl ?_
          refine gr_X5_7 (c := 1) hO dX5_spare_43 (ShM.c0 hC) rfl ?_
          refine G_iload hO dX5_spare_46 rfl ?_
          obtain ⟨c11, h⟩ := h
          refine G_baload hO dX5_spare_48 (ShM.c1 hC) c11 ?_
          refine G_if_ne (tgt := 55) hO dX5_spare_49 (by decide) (fun c12 => ?_) (fun c12 => ?_)
          · have h := h.1 c12
            refine G_aload_n hO dX5_spare_55 rfl rfl ?_
            refine gr_X5_7 (c := 1) hO dX5_spare_56 (ShM.c0 hC) rfl ?_
            refine G_iload hO dX5_spare_59 rfl ?_
            refine G_iconst (v := 0) hO dX5_spare_61 rfl ?_
            refine G_bastore hO dX5_spare_62 (ShM.c1 hC) c11 (by decide) ?_
            refine GG.nmw (fun w13 e14 => ?_)
            have h := h w13 e14
            refine G_aload_n hO dX5_spare_63 rfl rfl ?_
            refine G_iload_n hO dX5_spare_64 rfl rfl ?_
            refine G_callVi hO dX5_spare_65 h cl_X5_273 (ShM.c0 hC) rfl rfl (Nat.le_of_ble_eq_true rfl) (fun r15 w16 h => ?_) rfl
            refine G_istore (lv2 := [some (.ref (gad Γ 0)), some (.int p1), some (.int p2), some (.int l3), some (.int l4), some (.int l5), some (.int r15)]) hO dX5_spare_68 (by decide) rfl rfl ?_
            refine G_aload_n hO dX5_spare_70 rfl rfl ?_
            refine gr_X5_7 (c := 1) hO dX5_spare_71 (ShM.c0 hC) rfl ?_
            refine G_iload hO dX5_spare_74 rfl ?_
            refine GG.atpc (pc2 := 76) rfl ?_
            refine G_iconst (v := 1) hO dX5_spare_76 rfl ?_
            refine G_bastore hO dX5_spare_77 (ShM.c1 hC) c11 (by decide) ?_
            refine GG.nmw (fun w17 e18 => ?_)
            have h := h w17 e18
            refine G_iload hO dX5_spare_78 rfl ?_
            refine G_iload hO dX5_spare_80 rfl ?_
            refine G_icmp_gt (tgt := 88) hO dX5_spare_82 (by decide) (fun c19 => ?_) (fun c19 => ?_)
            · have h := h.1 c19
              refine G_iload hO dX5_spare_88 rfl ?_
              refine G_istore (lv2 := [some (.ref (gad Γ 0)), some (.int p1), some (.int p2), some (.int l3), some (.int r15), some (.int l5), some (.int r15)]) hO dX5_spare_90 (by decide) rfl rfl ?_
              refine G_iload hO dX5_spare_92 rfl ?_
              refine G_istore_n (lv2 := [some (.ref (gad Γ 0)), some (.int p1), some (.int p2), some (.int l5), some (.int r15), some (.int l5), some (.int r15)]) hO dX5_spare_94 rfl (by decide) rfl rfl ?_
              refine G_iinc (v := (l5 + 1)) (lv2 := [some (.ref (gad Γ 0)), some (.int p1), some (.int p2), some (.int l5), some (.int r15), some (.int (l5 + 1)), some (.int r15)]) hO dX5_spare_95 rfl rfl (by decide) rfl rfl ?_
              refine G_goto (tgt := 35) hO dX5_spare_98 (by decide) ?_
              exact GG.sub (lv2 := [some (.ref (gad Γ 0)), some (.int p1), some (.int p2), some (.int l5), some (.int r15), some (.int (l5 + 1)), none]) ⟨rfl, ⟨rfl, ⟨rfl, ⟨rfl, ⟨rfl, ⟨rfl, trivial⟩⟩⟩⟩⟩⟩ h
            · have h := h.2 c19
              refine G_goto (tgt := 95) hO dX5_spare_85 (by decide) ?_
              refine G_iinc (v := (l5 + 1)) (lv2 := [some (.ref (gad Γ 0)), some (.int p1), some (.int p2), some (.int l3), some (.int l4), some (.int (l5 + 1)), some (.int r15)]) hO dX5_spare_95 rfl rfl (by decide) rfl rfl ?_
              refine G_goto (tgt := 35) hO dX5_spare_98 (by decide) ?_
              exact GG.sub (lv2 := [some (.ref (gad Γ 0)), some (.int p1), some (.int p2), some (.int l3), some (.int l4), some (.int (l5 + 1)), none]) ⟨rfl, ⟨rfl, ⟨rfl, ⟨rfl, ⟨rfl, ⟨rfl, trivial⟩⟩⟩⟩⟩⟩ h
          · have h := h.2 c12
            refine G_goto (tgt := 95) hO dX5_spare_52 (by decide) ?_
            refine G_iinc (v := (l5 + 1)) (lv2 := [some (.ref (gad Γ 0)), some (.int p1), some (.int p2), some (.int l3), some (.int l4), some (.int (l5 + 1)), none]) hO dX5_spare_95 rfl rfl (by decide) rfl rfl ?_
            refine G_goto (tgt := 35) hO dX5_spare_98 (by decide) ?_
            exact GG.sub (lv2 := [some (.ref (gad Γ 0)), some (.int p1), some (.int p2), some (.int l3), some (.int l4), some (.int (l5 + 1)), none]) ⟨rfl, ⟨rfl, ⟨rfl, ⟨rfl, ⟨rfl, ⟨rfl, trivial⟩⟩⟩⟩⟩⟩ h)
  refine G_iload_n hO dX5_spare_0 rfl rfl ?_
  refine G_iconst (v := 0) hO dX5_spare_1 rfl ?_
  refine G_bipush (v := 40) hO dX5_spare_2 rfl ?_
  refine G_callSi hO dX5_spare_4 h cl_X5_82 rfl (Nat.le_of_ble_eq_true rfl) (fun r1 w2 h => ?_) rfl
  refine G_if_eq (tgt := 19) hO dX5_spare_7 (by decide) (fun c3 => ?_) (fun c3 => ?_)
  · have h := h.1 c3
    refine G_sipush (v := -1000) hO dX5_spare_19 rfl ?_
    exact G_iret hO dX5_spare_22 rfl rfl (QI.i h)
  · have h := h.2 c3
    refine G_iload_n hO dX5_spare_10 rfl rfl ?_
    refine G_iconst (v := 0) hO dX5_spare_11 rfl ?_
    refine G_iconst (v := 1) hO dX5_spare_12 rfl ?_
    refine G_callSi hO dX5_spare_13 h cl_X5_82 rfl (Nat.le_of_ble_eq_true rfl) (fun r4 w5 h => ?_) rfl
    refine G_if_ne (tgt := 23) hO dX5_spare_16 (by decide) (fun c6 => ?_) (fun c6 => ?_)
    · have h := h.1 c6
      refine G_iconst (v := -1) hO dX5_spare_23 rfl ?_
      refine G_istore_n (lv2 := [some (.ref (gad Γ 0)), some (.int p1), some (.int p2), some (.int (-1 : Int32)), none, none, none]) hO dX5_spare_24 rfl (by decide) rfl rfl ?_
      refine G_aload_n hO dX5_spare_25 rfl rfl ?_
      refine G_iload_n hO dX5_spare_26 rfl rfl ?_
      refine G_callVi hO dX5_spare_27 h cl_X5_273 (ShM.c0 hC) rfl rfl (Nat.le_of_ble_eq_true rfl) (fun r7 w8 h => ?_) rfl
      refine G_istore (lv2 := [some (.ref (gad Γ 0)), some (.int p1), some (.int p2), some (.int (-1 : Int32)), some (.int r7), none, none]) hO dX5_spare_30 (by decide) rfl rfl ?_
      refine G_iconst (v := 0) hO dX5_spare_32 rfl ?_
      refine G_istore (lv2 := [some (.ref (gad Γ 0)), some (.int p1), some (.int p2), some (.int (-1 : Int32)), some (.int r7), some (.int (0 : Int32)), none]) hO dX5_spare_33 (by decide) rfl rfl ?_
      exact GG.sub (lv2 := [some (.ref (gad Γ 0)), some (.int p1), some (.int p2), some (.int (-1 : Int32)), some (.int r7), some (.int (0 : Int32)), none]) ⟨rfl, ⟨rfl, ⟨rfl, ⟨rfl, ⟨rfl, ⟨rfl, trivial⟩⟩⟩⟩⟩⟩ h
    · have h := h.2 c6
      refine G_sipush (v := -1000) hO dX5_spare_19 rfl ?_
      exact G_iret hO dX5_spare_22 rfl rfl (QI.i h)
def wp_X5_add (Γ : Gx) (d : Nat) (p1 : Int32) (p2 : Int32) (p3 : Int32) (w : Wd) (Q : Int32 → Wd → Prop) : Prop :=
  ∀ (P_57 : Int32 → Int32 → Int32 → Int32 → Int32 → Wd → Prop),
  (∀ (l4 : Int32) (l5 : Int32) (l6 : Int32) (l7 : Int32) (l8 : Int32) (w : Wd), (((8 : Int32) ≤ l8 → ((¬ p3 = 0 → Q l7 w) ∧ (p3 = 0 → Q l6 w))) ∧ (¬ (8 : Int32) ≤ l8 → (vp_in l8 8 ∧ (((w 1 (l8).toNatClampNeg) = 0 → P_57 l4 l5 l6 l7 (l8 + 1) w) ∧ (¬ (w 1 (l8).toNatClampNeg) = 0 → ((¬ ((l5 >>> (l8 &&& 31)) &&& (1 : Int32)) = (1 : Int32) → CI Γ d M_X5_feels [.ref (gad Γ 0), .int p1, .int p2, .int l8] w (fun r19 w20 => CI Γ d M_X5_bound [.int (l4 + r19)] w20 (fun r21 w22 => ((l7 < r21 → P_57 l4 l5 l8 r21 (l8 + 1) w22) ∧ (¬ l7 < r21 → P_57 l4 l5 l6 l7 (l8 + 1) w22))))) ∧ (((l5 >>> (l8 &&& 31)) &&& (1 : Int32)) = (1 : Int32) → P_57 l4 l5 l6 l7 (l8 + 1) w))))))) → P_57 l4 l5 l6 l7 l8 w) →
  CI Γ d M_X5_areTwo [.ref (gad Γ 0), .int p1, .int p2] w (fun r1 w2 => ((r1 = 0 → Q (-1000 : Int32) w2) ∧ (¬ r1 = 0 → CI Γ d M_X5_within [.int p3, .int (0 : Int32), .int (1 : Int32)] w2 (fun r4 w5 => ((¬ r4 = 0 → (vp_in p2 5 ∧ CI Γ d M_X5_felt [.ref (gad Γ 0), .int p2] w5 (fun r8 w9 => CI Γ d M_X5_made [.ref (gad Γ 0), .int p1, .int p2] w9 (fun r10 w11 => CI Γ d M_X5_bound [.int ((w5 4 (p2).toNatClampNeg) + r8)] w11 (fun r12 w13 => P_57 ((w5 4 (p2).toNatClampNeg) + r8) r10 (-1 : Int32) r12 (0 : Int32) w13))))) ∧ (r4 = 0 → Q (-1000 : Int32) w5))))))
set_option maxRecDepth 20000 in
theorem con_X5_add {Γ : Gx} {d : Nat} (hG : GM Γ) {p1 : Int32} {p2 : Int32} {p3 : Int32}  {w : Wd} {Q : Int32 → Wd → Prop} (h : wp_X5_add Γ d p1 p2 p3 w Q) : CI Γ (d + 1) M_X5_add [.ref (gad Γ 0), .int p1, .int p2, .int p3] w Q := by
  have hC := hG.2
  refine Con.of RX5 cX5_add 10 (some .int) [some (.ref (gad Γ 0)), some (.int p1), some (.int p2), some (.int p3), none, none, none, none, none, none] rfl rfl (by decide +kernel) hG.1 (catR (catI (catI (catI cat0)))) (Nat.le_of_ble_eq_true rfl) rfl ?_
  intro X hO
  have h := h
    (fun (l4 : Int32) (l5 : Int32) (l6 : Int32) (l7 : Int32) (l8 : Int32) (w : Wd) => GG Γ X (d + 1) 10 (QI Q) 57 [some (.ref (gad Γ 0)), some (.int p1), some (.int p2), some (.int p3), some (.int l4), some (.int l5), some (.int l6), some (.int l7), some (.int l8), none] [] w)
    (by
        intro l4 l5 l6 l7 l8 w h
        refine G_iload hO dX5_add_57 rfl ?_
        refine G_bipush (v := 8) hO dX5_add_59 rfl ?_
        refine G_icmp_ge (tgt := 128) hO dX5_add_61 (by decide) (fun c14 => ?_) (fun c14 => ?_)
        · have h := h.1 c14
          refine G_iload_n hO dX5_add_128 rfl rfl ?_
          refine G_if_ne (tgt := 137) hO dX5_add_129 (by decide) (fun c15 => ?_) (fun c15 => ?_)
          · have h := h.1 c15
            refine G_iload hO dX5_add_137 rfl ?_
            exact G_iret hO dX5_add_139 rfl rfl (QI.i h)
          · have h := h.2 c15
            refine G_iload hO dX5_add_132 rfl ?_
            refine G_goto (tgt := 139) hO dX5_add_134 (by decide) ?_
            exact G_iret hO dX5_add_139 rfl rfl (QI.i h)
        · have h := h.2 c14
          refine G_aload_n hO dX5_add_64 rfl rfl ?_
          refine gr_X5_7 (c := 1) hO dX5_add_65 (ShM.c0 hC) rfl ?_
          refine G_iload hO dX5_add_68 rfl ?_
          obtain ⟨c16, h⟩ := h
          refine G_baload hO dX5_add_70 (ShM.c1 hC) c16 ?_
          refine G_if_eq (tgt := 122) hO dX5_add_71 (by decide) (fun c17 => ?_) (fun c17 => ?_)
          · have h := h.1 c17
            refine G_iinc (v := (l8 + 1)) (lv2 := [some (.ref (gad Γ 0)), some (.int p1), some (.int p2), some (.int p3), some (.int l4), some (.int l5), some (.int l6), some (.int l7), some (.int (l8 + 1)), none]) hO dX5_add_122 rfl rfl (by decide) rfl rfl ?_
            refine G_goto (tgt := 57) hO dX5_add_125 (by decide) ?_
            exact GG.sub (lv2 := [some (.ref (gad Γ 0)), some (.int p1), some (.int p2), some (.int p3), some (.int l4), some (.int l5), some (.int l6), some (.int l7), some (.int (l8 + 1)), none]) ⟨rfl, ⟨rfl, ⟨rfl, ⟨rfl, ⟨rfl, ⟨rfl, ⟨rfl, ⟨rfl, ⟨rfl, trivial⟩⟩⟩⟩⟩⟩⟩⟩⟩ h
          · have h := h.2 c17
            refine G_iload hO dX5_add_74 rfl ?_
            refine G_iload hO dX5_add_76 rfl ?_
            refine G_ishr hO dX5_add_78 ?_
            refine G_iconst (v := 1) hO dX5_add_79 rfl ?_
            refine G_iand hO dX5_add_80 ?_
            refine G_iconst (v := 1) hO dX5_add_81 rfl ?_
            refine G_icmp_ne (tgt := 88) hO dX5_add_82 (by decide) (fun c18 => ?_) (fun c18 => ?_)
            · have h := h.1 c18
              refine G_iload hO dX5_add_88 rfl ?_
              refine G_aload_n hO dX5_add_90 rfl rfl ?_
              refine G_iload_n hO dX5_add_91 rfl rfl ?_
              refine G_iload_n hO dX5_add_92 rfl rfl ?_
              refine G_iload hO dX5_add_93 rfl ?_
              refine G_callVi hO dX5_add_95 h cl_X5_234 (ShM.c0 hC) rfl rfl (Nat.le_of_ble_eq_true rfl) (fun r19 w20 h => ?_) rfl
              refine G_iadd hO dX5_add_98 ?_
              refine G_callSi hO dX5_add_99 h cl_X5_123 rfl (Nat.le_of_ble_eq_true rfl) (fun r21 w22 h => ?_) rfl
              refine G_istore (lv2 := [some (.ref (gad Γ 0)), some (.int p1), some (.int p2), some (.int p3), some (.int l4), some (.int l5), some (.int l6), some (.int l7), some (.int l8), some (.int r21)]) hO dX5_add_102 (by decide) rfl rfl ?_
              refine G_iload hO dX5_add_104 rfl ?_
              refine G_iload hO dX5_add_106 rfl ?_
              refine G_icmp_gt (tgt := 114) hO dX5_add_108 (by decide) (fun c23 => ?_) (fun c23 => ?_)
              · have h := h.1 c23
                refine G_iload hO dX5_add_114 rfl ?_
                refine G_istore (lv2 := [some (.ref (gad Γ 0)), some (.int p1), some (.int p2), some (.int p3), some (.int l4), some (.int l5), some (.int l6), some (.int r21), some (.int l8), some (.int r21)]) hO dX5_add_116 (by decide) rfl rfl ?_
                refine G_iload hO dX5_add_118 rfl ?_
                refine G_istore (lv2 := [some (.ref (gad Γ 0)), some (.int p1), some (.int p2), some (.int p3), some (.int l4), some (.int l5), some (.int l8), some (.int r21), some (.int l8), some (.int r21)]) hO dX5_add_120 (by decide) rfl rfl ?_
                refine G_iinc (v := (l8 + 1)) (lv2 := [some (.ref (gad Γ 0)), some (.int p1), some (.int p2), some (.int p3), some (.int l4), some (.int l5), some (.int l8), some (.int r21), some (.int (l8 + 1)), some (.int r21)]) hO dX5_add_122 rfl rfl (by decide) rfl rfl ?_
                refine G_goto (tgt := 57) hO dX5_add_125 (by decide) ?_
                exact GG.sub (lv2 := [some (.ref (gad Γ 0)), some (.int p1), some (.int p2), some (.int p3), some (.int l4), some (.int l5), some (.int l8), some (.int r21), some (.int (l8 + 1)), none]) ⟨rfl, ⟨rfl, ⟨rfl, ⟨rfl, ⟨rfl, ⟨rfl, ⟨rfl, ⟨rfl, ⟨rfl, trivial⟩⟩⟩⟩⟩⟩⟩⟩⟩ h
              · have h := h.2 c23
                refine G_goto (tgt := 122) hO dX5_add_111 (by decide) ?_
                refine G_iinc (v := (l8 + 1)) (lv2 := [some (.ref (gad Γ 0)), some (.int p1), some (.int p2), some (.int p3), some (.int l4), some (.int l5), some (.int l6), some (.int l7), some (.int (l8 + 1)), some (.int r21)]) hO dX5_add_122 rfl rfl (by decide) rfl rfl ?_
                refine G_goto (tgt := 57) hO dX5_add_125 (by decide) ?_
                exact GG.sub (lv2 := [some (.ref (gad Γ 0)), some (.int p1), some (.int p2), some (.int p3), some (.int l4), some (.int l5), some (.int l6), some (.int l7), some (.int (l8 + 1)), none]) ⟨rfl, ⟨rfl, ⟨rfl, ⟨rfl, ⟨rfl, ⟨rfl, ⟨rfl, ⟨rfl, ⟨rfl, trivial⟩⟩⟩⟩⟩⟩⟩⟩⟩ h
            · have h := h.2 c18
              refine G_goto (tgt := 122) hO dX5_add_85 (by decide) ?_
              refine G_iinc (v := (l8 + 1)) (lv2 := [some (.ref (gad Γ 0)), some (.int p1), some (.int p2), some (.int p3), some (.int l4), some (.int l5), some (.int l6), some (.int l7), some (.int (l8 + 1)), none]) hO dX5_add_122 rfl rfl (by decide) rfl rfl ?_
              refine G_goto (tgt := 57) hO dX5_add_125 (by decide) ?_
              exact GG.sub (lv2 := [some (.ref (gad Γ 0)), some (.int p1), some (.int p2), some (.int p3), some (.int l4), some (.int l5), some (.int l6), some (.int l7), some (.int (l8 + 1)), none]) ⟨rfl, ⟨rfl, ⟨rfl, ⟨rfl, ⟨rfl, ⟨rfl, ⟨rfl, ⟨rfl, ⟨rfl, trivial⟩⟩⟩⟩⟩⟩⟩⟩⟩ h)
  refine G_aload_n hO dX5_add_0 rfl rfl ?_
  refine G_iload_n hO dX5_add_1 rfl rfl ?_
  refine G_iload_n hO dX5_add_2 rfl rfl ?_
  refine G_callVi hO dX5_add_3 h cl_X5_240 (ShM.c0 hC) rfl rfl (Nat.le_of_ble_eq_true rfl) (fun r1 w2 h => ?_) rfl
  refine G_if_eq (tgt := 18) hO dX5_add_6 (by decide) (fun c3 => ?_) (fun c3 => ?_)
  · have h := h.1 c3
    refine G_sipush (v := -1000) hO dX5_add_18 rfl ?_
    exact G_iret hO dX5_add_21 rfl rfl (QI.i h)
  · have h := h.2 c3
    refine G_iload_n hO dX5_add_9 rfl rfl ?_
    refine G_iconst (v := 0) hO dX5_add_10 rfl ?_
    refine G_iconst (v := 1) hO dX5_add_11 rfl ?_
    refine G_callSi hO dX5_add_12 h cl_X5_82 rfl (Nat.le_of_ble_eq_true rfl) (fun r4 w5 h => ?_) rfl
    refine G_if_ne (tgt := 22) hO dX5_add_15 (by decide) (fun c6 => ?_) (fun c6 => ?_)
    · have h := h.1 c6
      refine G_aload_n hO dX5_add_22 rfl rfl ?_
      refine gr_X5_20 (c := 4) hO dX5_add_23 (ShM.c0 hC) rfl ?_
      refine G_iload_n hO dX5_add_26 rfl rfl ?_
      obtain ⟨c7, h⟩ := h
      refine G_iaload hO dX5_add_27 (ShM.c4 hC) c7 ?_
      refine G_aload_n hO dX5_add_28 rfl rfl ?_
      refine G_iload_n hO dX5_add_29 rfl rfl ?_
      refine G_callVi hO dX5_add_30 h cl_X5_120 (ShM.c0 hC) rfl rfl (Nat.le_of_ble_eq_true rfl) (fun r8 w9 h => ?_) rfl
      refine G_iadd hO dX5_add_33 ?_
      refine G_istore (lv2 := [some (.ref (gad Γ 0)), some (.int p1), some (.int p2), some (.int p3), some (.int ((w5 4 (p2).toNatClampNeg) + r8)), none, none, none, none, none]) hO dX5_add_34 (by decide) rfl rfl ?_
      refine G_aload_n hO dX5_add_36 rfl rfl ?_
      refine G_iload_n hO dX5_add_37 rfl rfl ?_
      refine G_iload_n hO dX5_add_38 rfl rfl ?_
      refine GG.atpc (pc2 := 39) rfl ?_
      refine G_callVi hO dX5_add_39 h cl_X5_107 (ShM.c0 hC) rfl rfl (Nat.le_of_ble_eq_true rfl) (fun r10 w11 h => ?_) rfl
      refine G_istore (lv2 := [some (.ref (gad Γ 0)), some (.int p1), some (.int p2), some (.int p3), some (.int ((w5 4 (p2).toNatClampNeg) + r8)), some (.int r10), none, none, none, none]) hO dX5_add_42 (by decide) rfl rfl ?_
      refine G_iconst (v := -1) hO dX5_add_44 rfl ?_
      refine G_istore (lv2 := [some (.ref (gad Γ 0)), some (.int p1), some (.int p2), some (.int p3), some (.int ((w5 4 (p2).toNatClampNeg) + r8)), some (.int r10), some (.int (-1 : Int32)), none, none, none]) hO dX5_add_45 (by decide) rfl rfl ?_
      refine G_iload hO dX5_add_47 rfl ?_
      refine G_callSi hO dX5_add_49 h cl_X5_123 rfl (Nat.le_of_ble_eq_true rfl) (fun r12 w13 h => ?_) rfl
      refine G_istore (lv2 := [some (.ref (gad Γ 0)), some (.int p1), some (.int p2), some (.int p3), some (.int ((w5 4 (p2).toNatClampNeg) + r8)), some (.int r10), some (.int (-1 : Int32)), some (.int r12), none, none]) hO dX5_add_52 (by decide) rfl rfl ?_
      refine G_iconst (v := 0) hO dX5_add_54 rfl ?_
      refine G_istore (lv2 := [some (.ref (gad Γ 0)), some (.int p1), some (.int p2), some (.int p3), some (.int ((w5 4 (p2).toNatClampNeg) + r8)), some (.int r10), some (.int (-1 : Int32)), some (.int r12), some (.int (0 : Int32)), none]) hO dX5_add_55 (by decide) rfl rfl ?_
      exact GG.sub (lv2 := [some (.ref (gad Γ 0)), some (.int p1), some (.int p2), some (.int p3), some (.int ((w5 4 (p2).toNatClampNeg) + r8)), some (.int r10), some (.int (-1 : Int32)), some (.int r12), some (.int (0 : Int32)), none]) ⟨rfl, ⟨rfl, ⟨rfl, ⟨rfl, ⟨rfl, ⟨rfl, ⟨rfl, ⟨rfl, ⟨rfl, trivial⟩⟩⟩⟩⟩⟩⟩⟩⟩ h
    · have h := h.2 c6
      refine G_sipush (v := -1000) hO dX5_add_18 rfl ?_
      exact G_iret hO dX5_add_21 rfl rfl (QI.i h)
def wp_X5_wrong (Γ : Gx) (d : Nat) (p1 : Int32) (p2 : Int32) (w : Wd) (Q : Int32 → Wd → Prop) : Prop :=
  ∀ (P_9 : Int32 → Int32 → Wd → Prop),
  (∀ (l3 : Int32) (l4 : Int32) (w : Wd), (vp_in p1 4 ∧ (((w 18 (p1).toNatClampNeg) ≤ l4 → CV Γ d M_X5_restores [.ref (gad Γ 0)] w (fun w6 => Q l3 w6)) ∧ (¬ (w 18 (p1).toNatClampNeg) ≤ l4 → ((¬ l3 = (-1 : Int32) → CV Γ d M_X5_restores [.ref (gad Γ 0)] w (fun w9 => Q l3 w9)) ∧ (l3 = (-1 : Int32) → CV Γ d M_X5_passes [.ref (gad Γ 0)] w (fun w11 => (vp_in p2 5 ∧ (vp_in (((40 : Int32) * p1) + l4) 160 ∧ (((w11 4 (p2).toNatClampNeg) = (w11 19 ((((40 : Int32) * p1) + l4)).toNatClampNeg) → P_9 l3 (l4 + 1) w11) ∧ (¬ (w11 4 (p2).toNatClampNeg) = (w11 19 ((((40 : Int32) * p1) + l4)).toNatClampNeg) → P_9 l4 (l4 + 1) w11)))))))))) → P_9 l3 l4 w) →
  CV Γ d M_X5_keeps [.ref (gad Γ 0)] w (fun w2 => P_9 (-1 : Int32) (0 : Int32) w2)
set_option maxRecDepth 20000 in
theorem con_X5_wrong {Γ : Gx} {d : Nat} (hG : GM Γ) {p1 : Int32} {p2 : Int32}  {w : Wd} {Q : Int32 → Wd → Prop} (h : wp_X5_wrong Γ d p1 p2 w Q) : CI Γ (d + 1) M_X5_wrong [.ref (gad Γ 0), .int p1, .int p2] w Q := by
  have hC := hG.2
  refine Con.of RX5 cX5_wrong 5 (some .int) [some (.ref (gad Γ 0)), some (.int p1), some (.int p2), none, none] rfl rfl (by decide +kernel) hG.1 (catR (catI (catI cat0))) (Nat.le_of_ble_eq_true rfl) rfl ?_
  intro X hO
  have h := h
    (fun (l3 : Int32) (l4 : Int32) (w : Wd) => GG Γ X (d + 1) 5 (QI Q) 9 [some (.ref (gad Γ 0)), some (.int p1), some (.int p2), some (.int l3), some (.int l4)] [] w)
    (by
        intro l3 l4 w h
        refine G_iload hO dX5_wrong_9 rfl ?_
        refine G_aload_n hO dX5_wrong_11 rfl rfl ?_
        refine gr_X5_62 (c := 18) hO dX5_wrong_12 (ShM.c0 hC) rfl ?_
        refine G_iload_n hO dX5_wrong_15 rfl rfl ?_
        obtain ⟨c3, h⟩ := h
        refine G_iaload hO dX5_wrong_16 (ShM.c18 hC) c3 ?_
        refine G_icmp_ge (tgt := 59) hO dX5_wrong_17 (by decide) (fun c4 => ?_) (fun c4 => ?_)
        · have h := h.1 c4
          refine G_aload_n hO dX5_wrong_59 rfl rfl ?_
          refine G_callVv hO dX5_wrong_60 h cl_X5_258 (ShM.c0 hC) rfl rfl (Nat.le_of_ble_eq_true rfl) (fun w6 h => ?_) rfl
          refine G_iload_n hO dX5_wrong_63 rfl rfl ?_
          exact G_iret hO dX5_wrong_64 rfl rfl (QI.i h)
        · have h := h.2 c4
          refine G_iload_n hO dX5_wrong_20 rfl rfl ?_
          refine G_iconst (v := -1) hO dX5_wrong_21 rfl ?_
          refine G_icmp_ne (tgt := 59) hO dX5_wrong_22 (by decide) (fun c7 => ?_) (fun c7 => ?_)
          · have h := h.1 c7
            refine G_aload_n hO dX5_wrong_59 rfl rfl ?_
            refine G_callVv hO dX5_wrong_60 h cl_X5_258 (ShM.c0 hC) rfl rfl (Nat.le_of_ble_eq_true rfl) (fun w9 h => ?_) rfl
            refine G_iload_n hO dX5_wrong_63 rfl rfl ?_
            exact G_iret hO dX5_wrong_64 rfl rfl (QI.i h)
          · have h := h.2 c7
            refine G_aload_n hO dX5_wrong_25 rfl rfl ?_
            refine G_callVv hO dX5_wrong_26 h cl_X5_246 (ShM.c0 hC) rfl rfl (Nat.le_of_ble_eq_true rfl) (fun w11 h => ?_) rfl
            refine G_aload_n hO dX5_wrong_29 rfl rfl ?_
            refine gr_X5_20 (c := 4) hO dX5_wrong_30 (ShM.c0 hC) rfl ?_
            refine G_iload_n hO dX5_wrong_33 rfl rfl ?_
            obtain ⟨c12, h⟩ := h
            refine G_iaload hO dX5_wrong_34 (ShM.c4 hC) c12 ?_
            refine G_aload_n hO dX5_wrong_35 rfl rfl ?_
            refine gr_X5_65 (c := 19) hO dX5_wrong_36 (ShM.c0 hC) rfl ?_
            refine G_bipush (v := 40) hO dX5_wrong_39 rfl ?_
            refine G_iload_n hO dX5_wrong_41 rfl rfl ?_
            refine G_imul hO dX5_wrong_42 ?_
            refine G_iload hO dX5_wrong_43 rfl ?_
            refine GG.atpc (pc2 := 45) rfl ?_
            refine G_iadd hO dX5_wrong_45 ?_
            obtain ⟨c13, h⟩ := h
            refine G_iaload hO dX5_wrong_46 (ShM.c19 hC) c13 ?_
            refine G_icmp_eq (tgt := 53) hO dX5_wrong_47 (by decide) (fun c14 => ?_) (fun c14 => ?_)
            · have h := h.1 c14
              refine G_iinc (v := (l4 + 1)) (lv2 := [some (.ref (gad Γ 0)), some (.int p1), some (.int p2), some (.int l3), some (.int (l4 + 1))]) hO dX5_wrong_53 rfl rfl (by decide) rfl rfl ?_
              refine G_goto (tgt := 9) hO dX5_wrong_56 (by decide) ?_
              exact GG.sub (lv2 := [some (.ref (gad Γ 0)), some (.int p1), some (.int p2), some (.int l3), some (.int (l4 + 1))]) ⟨rfl, ⟨rfl, ⟨rfl, ⟨rfl, ⟨rfl, trivial⟩⟩⟩⟩⟩ h
            · have h := h.2 c14
              refine G_iload hO dX5_wrong_50 rfl ?_
              refine G_istore_n (lv2 := [some (.ref (gad Γ 0)), some (.int p1), some (.int p2), some (.int l4), some (.int l4)]) hO dX5_wrong_52 rfl (by decide) rfl rfl ?_
              refine G_iinc (v := (l4 + 1)) (lv2 := [some (.ref (gad Γ 0)), some (.int p1), some (.int p2), some (.int l4), some (.int (l4 + 1))]) hO dX5_wrong_53 rfl rfl (by decide) rfl rfl ?_
              refine G_goto (tgt := 9) hO dX5_wrong_56 (by decide) ?_
              exact GG.sub (lv2 := [some (.ref (gad Γ 0)), some (.int p1), some (.int p2), some (.int l4), some (.int (l4 + 1))]) ⟨rfl, ⟨rfl, ⟨rfl, ⟨rfl, ⟨rfl, trivial⟩⟩⟩⟩⟩ h)
  refine G_aload_n hO dX5_wrong_0 rfl rfl ?_
  refine G_callVv hO dX5_wrong_1 h cl_X5_252 (ShM.c0 hC) rfl rfl (Nat.le_of_ble_eq_true rfl) (fun w2 h => ?_) rfl
  refine G_iconst (v := -1) hO dX5_wrong_4 rfl ?_
  refine G_istore_n (lv2 := [some (.ref (gad Γ 0)), some (.int p1), some (.int p2), some (.int (-1 : Int32)), none]) hO dX5_wrong_5 rfl (by decide) rfl rfl ?_
  refine G_iconst (v := 0) hO dX5_wrong_6 rfl ?_
  refine G_istore (lv2 := [some (.ref (gad Γ 0)), some (.int p1), some (.int p2), some (.int (-1 : Int32)), some (.int (0 : Int32))]) hO dX5_wrong_7 (by decide) rfl rfl ?_
  exact GG.sub (lv2 := [some (.ref (gad Γ 0)), some (.int p1), some (.int p2), some (.int (-1 : Int32)), some (.int (0 : Int32))]) ⟨rfl, ⟨rfl, ⟨rfl, ⟨rfl, ⟨rfl, trivial⟩⟩⟩⟩⟩ h
def wp_X5_kindsSo (Γ : Gx) (d : Nat) (p1 : Int32) (p2 : Int32) (w : Wd) (Q : Int32 → Wd → Prop) : Prop :=
  ∀ (P_13 : Int32 → Int32 → Int32 → Wd → Prop),
  (∀ (l3 : Int32) (l4 : Int32) (l5 : Int32) (w : Wd), (((6 : Int32) ≤ l5 → (vp_in p2 5 ∧ (∀ w4 : Wd, w4 = wset w 2 (p2).toNatClampNeg l3 → Q l4 w4))) ∧ (¬ (6 : Int32) ≤ l5 → (vp_in p2 5 ∧ (∀ w7 : Wd, w7 = wset w 2 (p2).toNatClampNeg l5 → CI Γ d M_X5_wrong [.ref (gad Γ 0), .int p1, .int p2] w7 (fun r9 w10 => ((¬ r9 = (-1 : Int32) → P_13 l3 l4 (l5 + 1) w10) ∧ (r9 = (-1 : Int32) → P_13 l3 (l4 ||| ((1 : Int32) <<< (l5 &&& 31))) (l5 + 1) w10))))))) → P_13 l3 l4 l5 w) →
  (vp_in p2 5 ∧ P_13 (w 2 (p2).toNatClampNeg) (0 : Int32) (0 : Int32) w)
set_option maxRecDepth 20000 in
theorem con_X5_kindsSo {Γ : Gx} {d : Nat} (hG : GM Γ) {p1 : Int32} {p2 : Int32}  {w : Wd} {Q : Int32 → Wd → Prop} (h : wp_X5_kindsSo Γ d p1 p2 w Q) : CI Γ (d + 1) M_X5_kindsSo [.ref (gad Γ 0), .int p1, .int p2] w Q := by
  have hC := hG.2
  refine Con.of RX5 cX5_kindsSo 6 (some .int) [some (.ref (gad Γ 0)), some (.int p1), some (.int p2), none, none, none] rfl rfl (by decide +kernel) hG.1 (catR (catI (catI cat0))) (Nat.le_of_ble_eq_true rfl) rfl ?_
  intro X hO
  have h := h
    (fun (l3 : Int32) (l4 : Int32) (l5 : Int32) (w : Wd) => GG Γ X (d + 1) 6 (QI Q) 13 [some (.ref (gad Γ 0)), some (.int p1), some (.int p2), some (.int l3), some (.int l4), some (.int l5)] [] w)
    (by
        intro l3 l4 l5 w h
        refine G_iload hO dX5_kindsSo_13 rfl ?_
        refine G_bipush (v := 6) hO dX5_kindsSo_15 rfl ?_
        refine G_icmp_ge (tgt := 53) hO dX5_kindsSo_17 (by decide) (fun c2 => ?_) (fun c2 => ?_)
        · have h := h.1 c2
          refine G_aload_n hO dX5_kindsSo_53 rfl rfl ?_
          refine gr_X5_13 (c := 2) hO dX5_kindsSo_54 (ShM.c0 hC) rfl ?_
          refine G_iload_n hO dX5_kindsSo_57 rfl rfl ?_
          refine G_iload_n hO dX5_kindsSo_58 rfl rfl ?_
          obtain ⟨c3, h⟩ := h
          refine G_iastore hO dX5_kindsSo_59 (ShM.c2 hC) c3 ?_
          refine GG.nmw (fun w4 e5 => ?_)
          have h := h w4 e5
          refine G_iload hO dX5_kindsSo_60 rfl ?_
          exact G_iret hO dX5_kindsSo_62 rfl rfl (QI.i h)
        · have h := h.2 c2
          refine G_aload_n hO dX5_kindsSo_20 rfl rfl ?_
          refine gr_X5_13 (c := 2) hO dX5_kindsSo_21 (ShM.c0 hC) rfl ?_
          refine G_iload_n hO dX5_kindsSo_24 rfl rfl ?_
          refine G_iload hO dX5_kindsSo_25 rfl ?_
          obtain ⟨c6, h⟩ := h
          refine G_iastore hO dX5_kindsSo_27 (ShM.c2 hC) c6 ?_
          refine GG.nmw (fun w7 e8 => ?_)
          have h := h w7 e8
          refine G_aload_n hO dX5_kindsSo_28 rfl rfl ?_
          refine G_iload_n hO dX5_kindsSo_29 rfl rfl ?_
          refine G_iload_n hO dX5_kindsSo_30 rfl rfl ?_
          refine G_callVi hO dX5_kindsSo_31 h cl_X5_276 (ShM.c0 hC) rfl rfl (Nat.le_of_ble_eq_true rfl) (fun r9 w10 h => ?_) rfl
          refine G_iconst (v := -1) hO dX5_kindsSo_34 rfl ?_
          refine G_icmp_ne (tgt := 47) hO dX5_kindsSo_35 (by decide) (fun c11 => ?_) (fun c11 => ?_)
          · have h := h.1 c11
            refine G_iinc (v := (l5 + 1)) (lv2 := [some (.ref (gad Γ 0)), some (.int p1), some (.int p2), some (.int l3), some (.int l4), some (.int (l5 + 1))]) hO dX5_kindsSo_47 rfl rfl (by decide) rfl rfl ?_
            refine G_goto (tgt := 13) hO dX5_kindsSo_50 (by decide) ?_
            exact GG.sub (lv2 := [some (.ref (gad Γ 0)), some (.int p1), some (.int p2), some (.int l3), some (.int l4), some (.int (l5 + 1))]) ⟨rfl, ⟨rfl, ⟨rfl, ⟨rfl, ⟨rfl, ⟨rfl, trivial⟩⟩⟩⟩⟩⟩ h
          · have h := h.2 c11
            refine G_iload hO dX5_kindsSo_38 rfl ?_
            refine G_iconst (v := 1) hO dX5_kindsSo_40 rfl ?_
            refine G_iload hO dX5_kindsSo_41 rfl ?_
            refine G_ishl hO dX5_kindsSo_43 ?_
            refine G_ior hO dX5_kindsSo_44 ?_
            refine G_istore (lv2 := [some (.ref (gad Γ 0)), some (.int p1), some (.int p2), some (.int l3), some (.int (l4 ||| ((1 : Int32) <<< (l5 &&& 31)))), some (.int l5)]) hO dX5_kindsSo_45 (by decide) rfl rfl ?_
            refine G_iinc (v := (l5 + 1)) (lv2 := [some (.ref (gad Γ 0)), some (.int p1), some (.int p2), some (.int l3), some (.int (l4 ||| ((1 : Int32) <<< (l5 &&& 31)))), some (.int (l5 + 1))]) hO dX5_kindsSo_47 rfl rfl (by decide) rfl rfl ?_
            refine G_goto (tgt := 13) hO dX5_kindsSo_50 (by decide) ?_
            exact GG.sub (lv2 := [some (.ref (gad Γ 0)), some (.int p1), some (.int p2), some (.int l3), some (.int (l4 ||| ((1 : Int32) <<< (l5 &&& 31)))), some (.int (l5 + 1))]) ⟨rfl, ⟨rfl, ⟨rfl, ⟨rfl, ⟨rfl, ⟨rfl, trivial⟩⟩⟩⟩⟩⟩ h)
  refine G_aload_n hO dX5_kindsSo_0 rfl rfl ?_
  refine gr_X5_13 (c := 2) hO dX5_kindsSo_1 (ShM.c0 hC) rfl ?_
  refine G_iload_n hO dX5_kindsSo_4 rfl rfl ?_
  obtain ⟨c1, h⟩ := h
  refine G_iaload hO dX5_kindsSo_5 (ShM.c2 hC) c1 ?_
  refine G_istore_n (lv2 := [some (.ref (gad Γ 0)), some (.int p1), some (.int p2), some (.int (w 2 (p2).toNatClampNeg)), none, none]) hO dX5_kindsSo_6 rfl (by decide) rfl rfl ?_
  refine G_iconst (v := 0) hO dX5_kindsSo_7 rfl ?_
  refine G_istore (lv2 := [some (.ref (gad Γ 0)), some (.int p1), some (.int p2), some (.int (w 2 (p2).toNatClampNeg)), some (.int (0 : Int32)), none]) hO dX5_kindsSo_8 (by decide) rfl rfl ?_
  refine G_iconst (v := 0) hO dX5_kindsSo_10 rfl ?_
  refine G_istore (lv2 := [some (.ref (gad Γ 0)), some (.int p1), some (.int p2), some (.int (w 2 (p2).toNatClampNeg)), some (.int (0 : Int32)), some (.int (0 : Int32))]) hO dX5_kindsSo_11 (by decide) rfl rfl ?_
  exact GG.sub (lv2 := [some (.ref (gad Γ 0)), some (.int p1), some (.int p2), some (.int (w 2 (p2).toNatClampNeg)), some (.int (0 : Int32)), some (.int (0 : Int32))]) ⟨rfl, ⟨rfl, ⟨rfl, ⟨rfl, ⟨rfl, ⟨rfl, trivial⟩⟩⟩⟩⟩⟩ h
def wp_X5_numbersSo (Γ : Gx) (d : Nat) (p1 : Int32) (p2 : Int32) (w : Wd) (Q : Int32 → Wd → Prop) : Prop :=
  ∀ (P_13 : Int32 → Int32 → Int32 → Wd → Prop),
  (∀ (l3 : Int32) (l4 : Int32) (l5 : Int32) (w : Wd), (((10 : Int32) ≤ l5 → (vp_in p2 5 ∧ (∀ w4 : Wd, w4 = wset w 3 (p2).toNatClampNeg l3 → Q l4 w4))) ∧ (¬ (10 : Int32) ≤ l5 → (vp_in p2 5 ∧ (∀ w7 : Wd, w7 = wset w 3 (p2).toNatClampNeg l5 → CI Γ d M_X5_wrong [.ref (gad Γ 0), .int p1, .int p2] w7 (fun r9 w10 => ((¬ r9 = (-1 : Int32) → P_13 l3 l4 (l5 + 1) w10) ∧ (r9 = (-1 : Int32) → P_13 l3 (l4 ||| ((1 : Int32) <<< (l5 &&& 31))) (l5 + 1) w10))))))) → P_13 l3 l4 l5 w) →
  (vp_in p2 5 ∧ P_13 (w 3 (p2).toNatClampNeg) (0 : Int32) (0 : Int32) w)
set_option maxRecDepth 20000 in
theorem con_X5_numbersSo {Γ : Gx} {d : Nat} (hG : GM Γ) {p1 : Int32} {p2 : Int32}  {w : Wd} {Q : Int32 → Wd → Prop} (h : wp_X5_numbersSo Γ d p1 p2 w Q) : CI Γ (d + 1) M_X5_numbersSo [.ref (gad Γ 0), .int p1, .int p2] w Q := by
  have hC := hG.2
  refine Con.of RX5 cX5_numbersSo 6 (some .int) [some (.ref (gad Γ 0)), some (.int p1), some (.int p2), none, none, none] rfl rfl (by decide +kernel) hG.1 (catR (catI (catI cat0))) (Nat.le_of_ble_eq_true rfl) rfl ?_
  intro X hO
  have h := h
    (fun (l3 : Int32) (l4 : Int32) (l5 : Int32) (w : Wd) => GG Γ X (d + 1) 6 (QI Q) 13 [some (.ref (gad Γ 0)), some (.int p1), some (.int p2), some (.int l3), some (.int l4), some (.int l5)] [] w)
    (by
        intro l3 l4 l5 w h
        refine G_iload hO dX5_numbersSo_13 rfl ?_
        refine G_bipush (v := 10) hO dX5_numbersSo_15 rfl ?_
        refine G_icmp_ge (tgt := 53) hO dX5_numbersSo_17 (by decide) (fun c2 => ?_) (fun c2 => ?_)
        · have h := h.1 c2
          refine G_aload_n hO dX5_numbersSo_53 rfl rfl ?_
          refine gr_X5_17 (c := 3) hO dX5_numbersSo_54 (ShM.c0 hC) rfl ?_
          refine G_iload_n hO dX5_numbersSo_57 rfl rfl ?_
          refine G_iload_n hO dX5_numbersSo_58 rfl rfl ?_
          obtain ⟨c3, h⟩ := h
          refine G_iastore hO dX5_numbersSo_59 (ShM.c3 hC) c3 ?_
          refine GG.nmw (fun w4 e5 => ?_)
          have h := h w4 e5
          refine G_iload hO dX5_numbersSo_60 rfl ?_
          exact G_iret hO dX5_numbersSo_62 rfl rfl (QI.i h)
        · have h := h.2 c2
          refine G_aload_n hO dX5_numbersSo_20 rfl rfl ?_
          refine gr_X5_17 (c := 3) hO dX5_numbersSo_21 (ShM.c0 hC) rfl ?_
          refine G_iload_n hO dX5_numbersSo_24 rfl rfl ?_
          refine G_iload hO dX5_numbersSo_25 rfl ?_
          obtain ⟨c6, h⟩ := h
          refine G_iastore hO dX5_numbersSo_27 (ShM.c3 hC) c6 ?_
          refine GG.nmw (fun w7 e8 => ?_)
          have h := h w7 e8
          refine G_aload_n hO dX5_numbersSo_28 rfl rfl ?_
          refine G_iload_n hO dX5_numbersSo_29 rfl rfl ?_
          refine G_iload_n hO dX5_numbersSo_30 rfl rfl ?_
          refine G_callVi hO dX5_numbersSo_31 h cl_X5_276 (ShM.c0 hC) rfl rfl (Nat.le_of_ble_eq_true rfl) (fun r9 w10 h => ?_) rfl
          refine G_iconst (v := -1) hO dX5_numbersSo_34 rfl ?_
          refine G_icmp_ne (tgt := 47) hO dX5_numbersSo_35 (by decide) (fun c11 => ?_) (fun c11 => ?_)
          · have h := h.1 c11
            refine G_iinc (v := (l5 + 1)) (lv2 := [some (.ref (gad Γ 0)), some (.int p1), some (.int p2), some (.int l3), some (.int l4), some (.int (l5 + 1))]) hO dX5_numbersSo_47 rfl rfl (by decide) rfl rfl ?_
            refine G_goto (tgt := 13) hO dX5_numbersSo_50 (by decide) ?_
            exact GG.sub (lv2 := [some (.ref (gad Γ 0)), some (.int p1), some (.int p2), some (.int l3), some (.int l4), some (.int (l5 + 1))]) ⟨rfl, ⟨rfl, ⟨rfl, ⟨rfl, ⟨rfl, ⟨rfl, trivial⟩⟩⟩⟩⟩⟩ h
          · have h := h.2 c11
            refine G_iload hO dX5_numbersSo_38 rfl ?_
            refine G_iconst (v := 1) hO dX5_numbersSo_40 rfl ?_
            refine G_iload hO dX5_numbersSo_41 rfl ?_
            refine G_ishl hO dX5_numbersSo_43 ?_
            refine G_ior hO dX5_numbersSo_44 ?_
            refine G_istore (lv2 := [some (.ref (gad Γ 0)), some (.int p1), some (.int p2), some (.int l3), some (.int (l4 ||| ((1 : Int32) <<< (l5 &&& 31)))), some (.int l5)]) hO dX5_numbersSo_45 (by decide) rfl rfl ?_
            refine G_iinc (v := (l5 + 1)) (lv2 := [some (.ref (gad Γ 0)), some (.int p1), some (.int p2), some (.int l3), some (.int (l4 ||| ((1 : Int32) <<< (l5 &&& 31)))), some (.int (l5 + 1))]) hO dX5_numbersSo_47 rfl rfl (by decide) rfl rfl ?_
            refine G_goto (tgt := 13) hO dX5_numbersSo_50 (by decide) ?_
            exact GG.sub (lv2 := [some (.ref (gad Γ 0)), some (.int p1), some (.int p2), some (.int l3), some (.int (l4 ||| ((1 : Int32) <<< (l5 &&& 31)))), some (.int (l5 + 1))]) ⟨rfl, ⟨rfl, ⟨rfl, ⟨rfl, ⟨rfl, ⟨rfl, trivial⟩⟩⟩⟩⟩⟩ h)
  refine G_aload_n hO dX5_numbersSo_0 rfl rfl ?_
  refine gr_X5_17 (c := 3) hO dX5_numbersSo_1 (ShM.c0 hC) rfl ?_
  refine G_iload_n hO dX5_numbersSo_4 rfl rfl ?_
  obtain ⟨c1, h⟩ := h
  refine G_iaload hO dX5_numbersSo_5 (ShM.c3 hC) c1 ?_
  refine G_istore_n (lv2 := [some (.ref (gad Γ 0)), some (.int p1), some (.int p2), some (.int (w 3 (p2).toNatClampNeg)), none, none]) hO dX5_numbersSo_6 rfl (by decide) rfl rfl ?_
  refine G_iconst (v := 0) hO dX5_numbersSo_7 rfl ?_
  refine G_istore (lv2 := [some (.ref (gad Γ 0)), some (.int p1), some (.int p2), some (.int (w 3 (p2).toNatClampNeg)), some (.int (0 : Int32)), none]) hO dX5_numbersSo_8 (by decide) rfl rfl ?_
  refine G_iconst (v := 0) hO dX5_numbersSo_10 rfl ?_
  refine G_istore (lv2 := [some (.ref (gad Γ 0)), some (.int p1), some (.int p2), some (.int (w 3 (p2).toNatClampNeg)), some (.int (0 : Int32)), some (.int (0 : Int32))]) hO dX5_numbersSo_11 (by decide) rfl rfl ?_
  exact GG.sub (lv2 := [some (.ref (gad Γ 0)), some (.int p1), some (.int p2), some (.int (w 3 (p2).toNatClampNeg)), some (.int (0 : Int32)), some (.int (0 : Int32))]) ⟨rfl, ⟨rfl, ⟨rfl, ⟨rfl, ⟨rfl, ⟨rfl, trivial⟩⟩⟩⟩⟩⟩ h
def wp_X5_moodsSo (Γ : Gx) (d : Nat) (p1 : Int32) (p2 : Int32) (p3 : Int32) (w : Wd) (Q : Int32 → Wd → Prop) : Prop :=
  ∀ (P_19 : Int32 → Int32 → Int32 → Int32 → Wd → Prop),
  (∀ (l4 : Int32) (l5 : Int32) (l6 : Int32) (l7 : Int32) (w : Wd), ((l7 < (-20 : Int32) → (vp_in p2 5 ∧ (∀ w4 : Wd, w4 = wset w 4 (p2).toNatClampNeg l4 → ((¬ p3 = 0 → Q l6 w4) ∧ (p3 = 0 → Q l5 w4))))) ∧ (¬ l7 < (-20 : Int32) → (vp_in p2 5 ∧ (∀ w8 : Wd, w8 = wset w 4 (p2).toNatClampNeg l7 → CI Γ d M_X5_wrong [.ref (gad Γ 0), .int p1, .int p2] w8 (fun r10 w11 => ((r10 = (-1 : Int32) → P_19 l4 (l5 + 1) l7 (l7 + (-1)) w11) ∧ (¬ r10 = (-1 : Int32) → P_19 l4 l5 l6 (l7 + (-1)) w11))))))) → P_19 l4 l5 l6 l7 w) →
  (vp_in p2 5 ∧ P_19 (w 4 (p2).toNatClampNeg) (0 : Int32) (-100 : Int32) (20 : Int32) w)
set_option maxRecDepth 20000 in
theorem con_X5_moodsSo {Γ : Gx} {d : Nat} (hG : GM Γ) {p1 : Int32} {p2 : Int32} {p3 : Int32}  {w : Wd} {Q : Int32 → Wd → Prop} (h : wp_X5_moodsSo Γ d p1 p2 p3 w Q) : CI Γ (d + 1) M_X5_moodsSo [.ref (gad Γ 0), .int p1, .int p2, .int p3] w Q := by
  have hC := hG.2
  refine Con.of RX5 cX5_moodsSo 8 (some .int) [some (.ref (gad Γ 0)), some (.int p1), some (.int p2), some (.int p3), none, none, none, none] rfl rfl (by decide +kernel) hG.1 (catR (catI (catI (catI cat0)))) (Nat.le_of_ble_eq_true rfl) rfl ?_
  intro X hO
  have h := h
    (fun (l4 : Int32) (l5 : Int32) (l6 : Int32) (l7 : Int32) (w : Wd) => GG Γ X (d + 1) 8 (QI Q) 19 [some (.ref (gad Γ 0)), some (.int p1), some (.int p2), some (.int p3), some (.int l4), some (.int l5), some (.int l6), some (.int l7)] [] w)
    (by
        intro l4 l5 l6 l7 w h
        refine G_iload hO dX5_moodsSo_19 rfl ?_
        refine G_bipush (v := -20) hO dX5_moodsSo_21 rfl ?_
        refine G_icmp_lt (tgt := 60) hO dX5_moodsSo_23 (by decide) (fun c2 => ?_) (fun c2 => ?_)
        · have h := h.1 c2
          refine G_aload_n hO dX5_moodsSo_60 rfl rfl ?_
          refine gr_X5_20 (c := 4) hO dX5_moodsSo_61 (ShM.c0 hC) rfl ?_
          refine G_iload_n hO dX5_moodsSo_64 rfl rfl ?_
          refine G_iload hO dX5_moodsSo_65 rfl ?_
          obtain ⟨c3, h⟩ := h
          refine G_iastore hO dX5_moodsSo_67 (ShM.c4 hC) c3 ?_
          refine GG.nmw (fun w4 e5 => ?_)
          have h := h w4 e5
          refine G_iload_n hO dX5_moodsSo_68 rfl rfl ?_
          refine G_if_ne (tgt := 77) hO dX5_moodsSo_69 (by decide) (fun c6 => ?_) (fun c6 => ?_)
          · have h := h.1 c6
            refine G_iload hO dX5_moodsSo_77 rfl ?_
            exact G_iret hO dX5_moodsSo_79 rfl rfl (QI.i h)
          · have h := h.2 c6
            refine G_iload hO dX5_moodsSo_72 rfl ?_
            refine G_goto (tgt := 79) hO dX5_moodsSo_74 (by decide) ?_
            exact G_iret hO dX5_moodsSo_79 rfl rfl (QI.i h)
        · have h := h.2 c2
          refine G_aload_n hO dX5_moodsSo_26 rfl rfl ?_
          refine gr_X5_20 (c := 4) hO dX5_moodsSo_27 (ShM.c0 hC) rfl ?_
          refine G_iload_n hO dX5_moodsSo_30 rfl rfl ?_
          refine G_iload hO dX5_moodsSo_31 rfl ?_
          obtain ⟨c7, h⟩ := h
          refine G_iastore hO dX5_moodsSo_33 (ShM.c4 hC) c7 ?_
          refine GG.nmw (fun w8 e9 => ?_)
          have h := h w8 e9
          refine G_aload_n hO dX5_moodsSo_34 rfl rfl ?_
          refine G_iload_n hO dX5_moodsSo_35 rfl rfl ?_
          refine G_iload_n hO dX5_moodsSo_36 rfl rfl ?_
          refine G_callVi hO dX5_moodsSo_37 h cl_X5_276 (ShM.c0 hC) rfl rfl (Nat.le_of_ble_eq_true rfl) (fun r10 w11 h => ?_) rfl
          refine G_iconst (v := -1) hO dX5_moodsSo_40 rfl ?_
          refine G_icmp_eq (tgt := 47) hO dX5_moodsSo_41 (by decide) (fun c12 => ?_) (fun c12 => ?_)
          · have h := h.1 c12
            refine G_iinc (v := (l5 + 1)) (lv2 := [some (.ref (gad Γ 0)), some (.int p1), some (.int p2), some (.int p3), some (.int l4), some (.int (l5 + 1)), some (.int l6), some (.int l7)]) hO dX5_moodsSo_47 rfl rfl (by decide) rfl rfl ?_
            refine G_iload hO dX5_moodsSo_50 rfl ?_
            refine G_istore (lv2 := [some (.ref (gad Γ 0)), some (.int p1), some (.int p2), some (.int p3), some (.int l4), some (.int (l5 + 1)), some (.int l7), some (.int l7)]) hO dX5_moodsSo_52 (by decide) rfl rfl ?_
            refine G_iinc (v := (l7 + (-1))) (lv2 := [some (.ref (gad Γ 0)), some (.int p1), some (.int p2), some (.int p3), some (.int l4), some (.int (l5 + 1)), some (.int l7), some (.int (l7 + (-1)))]) hO dX5_moodsSo_54 rfl rfl (by decide) rfl rfl ?_
            refine G_goto (tgt := 19) hO dX5_moodsSo_57 (by decide) ?_
            exact GG.sub (lv2 := [some (.ref (gad Γ 0)), some (.int p1), some (.int p2), some (.int p3), some (.int l4), some (.int (l5 + 1)), some (.int l7), some (.int (l7 + (-1)))]) ⟨rfl, ⟨rfl, ⟨rfl, ⟨rfl, ⟨rfl, ⟨rfl, ⟨rfl, ⟨rfl, trivial⟩⟩⟩⟩⟩⟩⟩⟩ h
          · have h := h.2 c12
            refine G_goto (tgt := 54) hO dX5_moodsSo_44 (by decide) ?_
            refine G_iinc (v := (l7 + (-1))) (lv2 := [some (.ref (gad Γ 0)), some (.int p1), some (.int p2), some (.int p3), some (.int l4), some (.int l5), some (.int l6), some (.int (l7 + (-1)))]) hO dX5_moodsSo_54 rfl rfl (by decide) rfl rfl ?_
            refine G_goto (tgt := 19) hO dX5_moodsSo_57 (by decide) ?_
            exact GG.sub (lv2 := [some (.ref (gad Γ 0)), some (.int p1), some (.int p2), some (.int p3), some (.int l4), some (.int l5), some (.int l6), some (.int (l7 + (-1)))]) ⟨rfl, ⟨rfl, ⟨rfl, ⟨rfl, ⟨rfl, ⟨rfl, ⟨rfl, ⟨rfl, trivial⟩⟩⟩⟩⟩⟩⟩⟩ h)
  refine G_aload_n hO dX5_moodsSo_0 rfl rfl ?_
  refine gr_X5_20 (c := 4) hO dX5_moodsSo_1 (ShM.c0 hC) rfl ?_
  refine G_iload_n hO dX5_moodsSo_4 rfl rfl ?_
  obtain ⟨c1, h⟩ := h
  refine G_iaload hO dX5_moodsSo_5 (ShM.c4 hC) c1 ?_
  refine G_istore (lv2 := [some (.ref (gad Γ 0)), some (.int p1), some (.int p2), some (.int p3), some (.int (w 4 (p2).toNatClampNeg)), none, none, none]) hO dX5_moodsSo_6 (by decide) rfl rfl ?_
  refine G_iconst (v := 0) hO dX5_moodsSo_8 rfl ?_
  refine G_istore (lv2 := [some (.ref (gad Γ 0)), some (.int p1), some (.int p2), some (.int p3), some (.int (w 4 (p2).toNatClampNeg)), some (.int (0 : Int32)), none, none]) hO dX5_moodsSo_9 (by decide) rfl rfl ?_
  refine G_bipush (v := -100) hO dX5_moodsSo_11 rfl ?_
  refine G_istore (lv2 := [some (.ref (gad Γ 0)), some (.int p1), some (.int p2), some (.int p3), some (.int (w 4 (p2).toNatClampNeg)), some (.int (0 : Int32)), some (.int (-100 : Int32)), none]) hO dX5_moodsSo_13 (by decide) rfl rfl ?_
  refine G_bipush (v := 20) hO dX5_moodsSo_15 rfl ?_
  refine G_istore (lv2 := [some (.ref (gad Γ 0)), some (.int p1), some (.int p2), some (.int p3), some (.int (w 4 (p2).toNatClampNeg)), some (.int (0 : Int32)), some (.int (-100 : Int32)), some (.int (20 : Int32))]) hO dX5_moodsSo_17 (by decide) rfl rfl ?_
  exact GG.sub (lv2 := [some (.ref (gad Γ 0)), some (.int p1), some (.int p2), some (.int p3), some (.int (w 4 (p2).toNatClampNeg)), some (.int (0 : Int32)), some (.int (-100 : Int32)), some (.int (20 : Int32))]) ⟨rfl, ⟨rfl, ⟨rfl, ⟨rfl, ⟨rfl, ⟨rfl, ⟨rfl, ⟨rfl, trivial⟩⟩⟩⟩⟩⟩⟩⟩ h
def wp_X5_textsSo (Γ : Gx) (d : Nat) (p1 : Int32) (p2 : Int32) (w : Wd) (Q : Int32 → Wd → Prop) : Prop :=
  ∀ (P_11 : Int32 → Int32 → Int32 → Wd → Prop),
  (∀ (l3 : Int32) (l4 : Int32) (l5 : Int32) (w : Wd), (((w 0 9) ≤ l5 → (∀ w2 : Wd, w2 = wset w 0 6 l3 → Q l4 w2)) ∧ (¬ (w 0 9) ≤ l5 → (∀ w4 : Wd, w4 = wset w 0 6 l5 → CI Γ d M_X5_wrong [.ref (gad Γ 0), .int p1, .int p2] w4 (fun r6 w7 => ((¬ r6 = (-1 : Int32) → P_11 l3 l4 (l5 + 1) w7) ∧ (r6 = (-1 : Int32) → P_11 l3 (l4 ||| ((1 : Int32) <<< (l5 &&& 31))) (l5 + 1) w7)))))) → P_11 l3 l4 l5 w) →
  P_11 (w 0 6) (0 : Int32) (0 : Int32) w
set_option maxRecDepth 20000 in
theorem con_X5_textsSo {Γ : Gx} {d : Nat} (hG : GM Γ) {p1 : Int32} {p2 : Int32}  {w : Wd} {Q : Int32 → Wd → Prop} (h : wp_X5_textsSo Γ d p1 p2 w Q) : CI Γ (d + 1) M_X5_textsSo [.ref (gad Γ 0), .int p1, .int p2] w Q := by
  have hC := hG.2
  refine Con.of RX5 cX5_textsSo 6 (some .int) [some (.ref (gad Γ 0)), some (.int p1), some (.int p2), none, none, none] rfl rfl (by decide +kernel) hG.1 (catR (catI (catI cat0))) (Nat.le_of_ble_eq_true rfl) rfl ?_
  intro X hO
  have h := h
    (fun (l3 : Int32) (l4 : Int32) (l5 : Int32) (w : Wd) => GG Γ X (d + 1) 6 (QI Q) 11 [some (.ref (gad Γ 0)), some (.int p1), some (.int p2), some (.int l3), some (.int l4), some (.int l5)] [] w)
    (by
        intro l3 l4 l5 w h
        refine G_iload hO dX5_textsSo_11 rfl ?_
        refine G_aload_n hO dX5_textsSo_13 rfl rfl ?_
        refine gi_X5_76 hO dX5_textsSo_14 (ShM.c0 hC) rfl ?_
        refine G_icmp_ge (tgt := 51) hO dX5_textsSo_17 (by decide) (fun c1 => ?_) (fun c1 => ?_)
        · have h := h.1 c1
          refine G_aload_n hO dX5_textsSo_51 rfl rfl ?_
          refine G_iload_n hO dX5_textsSo_52 rfl rfl ?_
          refine pi_X5_214 hO dX5_textsSo_53 (ShM.c0 hC) rfl ?_
          refine GG.nmw (fun w2 e3 => ?_)
          have h := h w2 e3
          refine G_iload hO dX5_textsSo_56 rfl ?_
          exact G_iret hO dX5_textsSo_58 rfl rfl (QI.i h)
        · have h := h.2 c1
          refine G_aload_n hO dX5_textsSo_20 rfl rfl ?_
          refine G_iload hO dX5_textsSo_21 rfl ?_
          refine pi_X5_214 hO dX5_textsSo_23 (ShM.c0 hC) rfl ?_
          refine GG.nmw (fun w4 e5 => ?_)
          have h := h w4 e5
          refine G_aload_n hO dX5_textsSo_26 rfl rfl ?_
          refine G_iload_n hO dX5_textsSo_27 rfl rfl ?_
          refine G_iload_n hO dX5_textsSo_28 rfl rfl ?_
          refine G_callVi hO dX5_textsSo_29 h cl_X5_276 (ShM.c0 hC) rfl rfl (Nat.le_of_ble_eq_true rfl) (fun r6 w7 h => ?_) rfl
          refine G_iconst (v := -1) hO dX5_textsSo_32 rfl ?_
          refine G_icmp_ne (tgt := 45) hO dX5_textsSo_33 (by decide) (fun c8 => ?_) (fun c8 => ?_)
          · have h := h.1 c8
            refine G_iinc (v := (l5 + 1)) (lv2 := [some (.ref (gad Γ 0)), some (.int p1), some (.int p2), some (.int l3), some (.int l4), some (.int (l5 + 1))]) hO dX5_textsSo_45 rfl rfl (by decide) rfl rfl ?_
            refine G_goto (tgt := 11) hO dX5_textsSo_48 (by decide) ?_
            exact GG.sub (lv2 := [some (.ref (gad Γ 0)), some (.int p1), some (.int p2), some (.int l3), some (.int l4), some (.int (l5 + 1))]) ⟨rfl, ⟨rfl, ⟨rfl, ⟨rfl, ⟨rfl, ⟨rfl, trivial⟩⟩⟩⟩⟩⟩ h
          · have h := h.2 c8
            refine G_iload hO dX5_textsSo_36 rfl ?_
            refine G_iconst (v := 1) hO dX5_textsSo_38 rfl ?_
            refine G_iload hO dX5_textsSo_39 rfl ?_
            refine G_ishl hO dX5_textsSo_41 ?_
            refine G_ior hO dX5_textsSo_42 ?_
            refine G_istore (lv2 := [some (.ref (gad Γ 0)), some (.int p1), some (.int p2), some (.int l3), some (.int (l4 ||| ((1 : Int32) <<< (l5 &&& 31)))), some (.int l5)]) hO dX5_textsSo_43 (by decide) rfl rfl ?_
            refine G_iinc (v := (l5 + 1)) (lv2 := [some (.ref (gad Γ 0)), some (.int p1), some (.int p2), some (.int l3), some (.int (l4 ||| ((1 : Int32) <<< (l5 &&& 31)))), some (.int (l5 + 1))]) hO dX5_textsSo_45 rfl rfl (by decide) rfl rfl ?_
            refine G_goto (tgt := 11) hO dX5_textsSo_48 (by decide) ?_
            exact GG.sub (lv2 := [some (.ref (gad Γ 0)), some (.int p1), some (.int p2), some (.int l3), some (.int (l4 ||| ((1 : Int32) <<< (l5 &&& 31)))), some (.int (l5 + 1))]) ⟨rfl, ⟨rfl, ⟨rfl, ⟨rfl, ⟨rfl, ⟨rfl, trivial⟩⟩⟩⟩⟩⟩ h)
  refine G_aload_n hO dX5_textsSo_0 rfl rfl ?_
  refine gi_X5_214 hO dX5_textsSo_1 (ShM.c0 hC) rfl ?_
  refine G_istore_n (lv2 := [some (.ref (gad Γ 0)), some (.int p1), some (.int p2), some (.int (w 0 6)), none, none]) hO dX5_textsSo_4 rfl (by decide) rfl rfl ?_
  refine G_iconst (v := 0) hO dX5_textsSo_5 rfl ?_
  refine G_istore (lv2 := [some (.ref (gad Γ 0)), some (.int p1), some (.int p2), some (.int (w 0 6)), some (.int (0 : Int32)), none]) hO dX5_textsSo_6 (by decide) rfl rfl ?_
  refine G_iconst (v := 0) hO dX5_textsSo_8 rfl ?_
  refine G_istore (lv2 := [some (.ref (gad Γ 0)), some (.int p1), some (.int p2), some (.int (w 0 6)), some (.int (0 : Int32)), some (.int (0 : Int32))]) hO dX5_textsSo_9 (by decide) rfl rfl ?_
  exact GG.sub (lv2 := [some (.ref (gad Γ 0)), some (.int p1), some (.int p2), some (.int (w 0 6)), some (.int (0 : Int32)), some (.int (0 : Int32))]) ⟨rfl, ⟨rfl, ⟨rfl, ⟨rfl, ⟨rfl, ⟨rfl, trivial⟩⟩⟩⟩⟩⟩ h
def wp_X5_tells (Γ : Gx) (d : Nat) (p1 : Int32) (p2 : Int32) (p3 : Int32) (w : Wd) (Q : Int32 → Wd → Prop) : Prop :=
  CI Γ d M_X5_isSheet [.int p1] w (fun r1 w2 => ((r1 = 0 → Q (-1000 : Int32) w2) ∧ (¬ r1 = 0 → CI Γ d M_X5_isOne [.ref (gad Γ 0), .int p2] w2 (fun r4 w5 => ((r4 = 0 → Q (-1000 : Int32) w5) ∧ (¬ r4 = 0 → CI Γ d M_X5_within [.int p3, .int (0 : Int32), .int (5 : Int32)] w5 (fun r7 w8 => ((¬ r7 = 0 → (vp_in p1 4 ∧ ((0 ≤ (w8 17 (p1).toNatClampNeg) → (((w8 18 (p1).toNatClampNeg) ≤ (10 : Int32) → (((p3 = (0 : Int32)) → CI Γ d M_X5_wrong [.ref (gad Γ 0), .int p1, .int p2] w8 (fun r13 w14 => Q r13 w14)) ∧ ((p3 = (1 : Int32)) → CI Γ d M_X5_kindsSo [.ref (gad Γ 0), .int p1, .int p2] w8 (fun r15 w16 => Q r15 w16)) ∧ ((p3 = (2 : Int32)) → CI Γ d M_X5_numbersSo [.ref (gad Γ 0), .int p1, .int p2] w8 (fun r17 w18 => Q r17 w18)) ∧ ((p3 = (3 : Int32)) → CI Γ d M_X5_moodsSo [.ref (gad Γ 0), .int p1, .int p2, .int (0 : Int32)] w8 (fun r19 w20 => Q r19 w20)) ∧ ((p3 = (4 : Int32)) → CI Γ d M_X5_moodsSo [.ref (gad Γ 0), .int p1, .int p2, .int (1 : Int32)] w8 (fun r21 w22 => Q r21 w22)) ∧ ((¬ p3 = (0 : Int32) ∧ ¬ p3 = (1 : Int32) ∧ ¬ p3 = (2 : Int32) ∧ ¬ p3 = (3 : Int32) ∧ ¬ p3 = (4 : Int32)) → CI Γ d M_X5_textsSo [.ref (gad Γ 0), .int p1, .int p2] w8 (fun r23 w24 => Q r23 w24)))) ∧ (¬ (w8 18 (p1).toNatClampNeg) ≤ (10 : Int32) → Q (-1000 : Int32) w8))) ∧ (¬ 0 ≤ (w8 17 (p1).toNatClampNeg) → Q (-11 : Int32) w8)))) ∧ (r7 = 0 → Q (-1000 : Int32) w8)))))))))
set_option maxRecDepth 20000 in
theorem con_X5_tells {Γ : Gx} {d : Nat} (hG : GM Γ) {p1 : Int32} {p2 : Int32} {p3 : Int32}  {w : Wd} {Q : Int32 → Wd → Prop} (h : wp_X5_tells Γ d p1 p2 p3 w Q) : CI Γ (d + 1) M_X5_tells [.ref (gad Γ 0), .int p1, .int p2, .int p3] w Q := by
  have hC := hG.2
  refine Con.of RX5 cX5_tells 4 (some .int) [some (.ref (gad Γ 0)), some (.int p1), some (.int p2), some (.int p3)] rfl rfl (by decide +kernel) hG.1 (catR (catI (catI (catI cat0)))) (Nat.le_of_ble_eq_true rfl) rfl ?_
  intro X hO
  refine G_iload_n hO dX5_tells_0 rfl rfl ?_
  refine G_callSi hO dX5_tells_1 h cl_X5_279 rfl (Nat.le_of_ble_eq_true rfl) (fun r1 w2 h => ?_) rfl
  refine G_if_eq (tgt := 24) hO dX5_tells_4 (by decide) (fun c3 => ?_) (fun c3 => ?_)
  · have h := h.1 c3
    refine G_sipush (v := -1000) hO dX5_tells_24 rfl ?_
    exact G_iret hO dX5_tells_27 rfl rfl (QI.i h)
  · have h := h.2 c3
    refine G_aload_n hO dX5_tells_7 rfl rfl ?_
    refine G_iload_n hO dX5_tells_8 rfl rfl ?_
    refine G_callVi hO dX5_tells_9 h cl_X5_86 (ShM.c0 hC) rfl rfl (Nat.le_of_ble_eq_true rfl) (fun r4 w5 h => ?_) rfl
    refine G_if_eq (tgt := 24) hO dX5_tells_12 (by decide) (fun c6 => ?_) (fun c6 => ?_)
    · have h := h.1 c6
      refine G_sipush (v := -1000) hO dX5_tells_24 rfl ?_
      exact G_iret hO dX5_tells_27 rfl rfl (QI.i h)
    · have h := h.2 c6
      refine G_iload_n hO dX5_tells_15 rfl rfl ?_
      refine G_iconst (v := 0) hO dX5_tells_16 rfl ?_
      refine G_iconst (v := 5) hO dX5_tells_17 rfl ?_
      refine G_callSi hO dX5_tells_18 h cl_X5_82 rfl (Nat.le_of_ble_eq_true rfl) (fun r7 w8 h => ?_) rfl
      refine G_if_ne (tgt := 28) hO dX5_tells_21 (by decide) (fun c9 => ?_) (fun c9 => ?_)
      · have h := h.1 c9
        refine G_aload_n hO dX5_tells_28 rfl rfl ?_
        refine gr_X5_59 (c := 17) hO dX5_tells_29 (ShM.c0 hC) rfl ?_
        refine G_iload_n hO dX5_tells_32 rfl rfl ?_
        obtain ⟨c10, h⟩ := h
        refine G_iaload hO dX5_tells_33 (ShM.c17 hC) c10 ?_
        refine G_if_ge (tgt := 40) hO dX5_tells_34 (by decide) (fun c11 => ?_) (fun c11 => ?_)
        · have h := h.1 c11
          refine G_aload_n hO dX5_tells_40 rfl rfl ?_
          refine gr_X5_62 (c := 18) hO dX5_tells_41 (ShM.c0 hC) rfl ?_
          refine G_iload_n hO dX5_tells_44 rfl rfl ?_
          refine G_iaload hO dX5_tells_45 (ShM.c18 hC) c10 ?_
          refine G_bipush (v := 10) hO dX5_tells_46 rfl ?_
          refine G_icmp_le (tgt := 55) hO dX5_tells_48 (by decide) (fun c12 => ?_) (fun c12 => ?_)
          · have h := h.1 c12
            refine G_iload_n hO dX5_tells_55 rfl rfl ?_
            by_cases e0 : p3 = (0 : Int32)
            · have h := h.1 e0
              refine G_tabIn (tgt := 92) (j := 0) hO dX5_tells_56 (by decide) rfl (sweq e0 (by decide)) (by decide) ?_
              refine G_aload_n hO dX5_tells_92 rfl rfl ?_
              refine G_iload_n hO dX5_tells_93 rfl rfl ?_
              refine G_iload_n hO dX5_tells_94 rfl rfl ?_
              refine G_callVi hO dX5_tells_95 h cl_X5_276 (ShM.c0 hC) rfl rfl (Nat.le_of_ble_eq_true rfl) (fun r13 w14 h => ?_) rfl
              exact G_iret hO dX5_tells_98 rfl rfl (QI.i h)
            · by_cases e1 : p3 = (1 : Int32)
              · have h := h.2.1 e1
                refine G_tabIn (tgt := 99) (j := 1) hO dX5_tells_56 (by decide) rfl (sweq e1 (by decide)) (by decide) ?_
                refine G_aload_n hO dX5_tells_99 rfl rfl ?_
                refine G_iload_n hO dX5_tells_100 rfl rfl ?_
                refine G_iload_n hO dX5_tells_101 rfl rfl ?_
                refine G_callVi hO dX5_tells_102 h cl_X5_282 (ShM.c0 hC) rfl rfl (Nat.le_of_ble_eq_true rfl) (fun r15 w16 h => ?_) rfl
                exact G_iret hO dX5_tells_105 rfl rfl (QI.i h)
              · by_cases e2 : p3 = (2 : Int32)
                · have h := h.2.2.1 e2
                  refine G_tabIn (tgt := 106) (j := 2) hO dX5_tells_56 (by decide) rfl (sweq e2 (by decide)) (by decide) ?_
                  refine G_aload_n hO dX5_tells_106 rfl rfl ?_
                  refine G_iload_n hO dX5_tells_107 rfl rfl ?_
                  refine G_iload_n hO dX5_tells_108 rfl rfl ?_
                  refine G_callVi hO dX5_tells_109 h cl_X5_285 (ShM.c0 hC) rfl rfl (Nat.le_of_ble_eq_true rfl) (fun r17 w18 h => ?_) rfl
                  exact G_iret hO dX5_tells_112 rfl rfl (QI.i h)
                · by_cases e3 : p3 = (3 : Int32)
                  · have h := h.2.2.2.1 e3
                    refine G_tabIn (tgt := 113) (j := 3) hO dX5_tells_56 (by decide) rfl (sweq e3 (by decide)) (by decide) ?_
                    refine G_aload_n hO dX5_tells_113 rfl rfl ?_
                    refine G_iload_n hO dX5_tells_114 rfl rfl ?_
                    refine G_iload_n hO dX5_tells_115 rfl rfl ?_
                    refine G_iconst (v := 0) hO dX5_tells_116 rfl ?_
                    refine G_callVi hO dX5_tells_117 h cl_X5_288 (ShM.c0 hC) rfl rfl (Nat.le_of_ble_eq_true rfl) (fun r19 w20 h => ?_) rfl
                    exact G_iret hO dX5_tells_120 rfl rfl (QI.i h)
                  · by_cases e4 : p3 = (4 : Int32)
                    · have h := h.2.2.2.2.1 e4
                      refine G_tabIn (tgt := 121) (j := 4) hO dX5_tells_56 (by decide) rfl (sweq e4 (by decide)) (by decide) ?_
                      refine G_aload_n hO dX5_tells_121 rfl rfl ?_
                      refine G_iload_n hO dX5_tells_122 rfl rfl ?_
                      refine G_iload_n hO dX5_tells_123 rfl rfl ?_
                      refine G_iconst (v := 1) hO dX5_tells_124 rfl ?_
                      refine G_callVi hO dX5_tells_125 h cl_X5_288 (ShM.c0 hC) rfl rfl (Nat.le_of_ble_eq_true rfl) (fun r21 w22 h => ?_) rfl
                      exact G_iret hO dX5_tells_128 rfl rfl (QI.i h)
                    · have h := h.2.2.2.2.2 ⟨e0, e1, e2, e3, e4⟩
                      refine G_tabOut (tgt := 129) hO dX5_tells_56 (by decide) (by decide) (fun j hj => ?_) ?_
                      · rcases (show j = 0 ∨ j = 1 ∨ j = 2 ∨ j = 3 ∨ j = 4 from by have : j < 5 := hj; omega) with rfl | rfl | rfl | rfl | rfl
                        · exact swne e0 (by decide)
                        · exact swne e1 (by decide)
                        · exact swne e2 (by decide)
                        · exact swne e3 (by decide)
                        · exact swne e4 (by decide)
                      · refine G_aload_n hO dX5_tells_129 rfl rfl ?_
                        refine G_iload_n hO dX5_tells_130 rfl rfl ?_
                        refine G_iload_n hO dX5_tells_131 rfl rfl ?_
                        refine G_callVi hO dX5_tells_132 h cl_X5_291 (ShM.c0 hC) rfl rfl (Nat.le_of_ble_eq_true rfl) (fun r23 w24 h => ?_) rfl
                        exact G_iret hO dX5_tells_135 rfl rfl (QI.i h)
          · have h := h.2 c12
            refine G_sipush (v := -1000) hO dX5_tells_51 rfl ?_
            exact G_iret hO dX5_tells_54 rfl rfl (QI.i h)
        · have h := h.2 c11
          refine G_bipush (v := -11) hO dX5_tells_37 rfl ?_
          exact G_iret hO dX5_tells_39 rfl rfl (QI.i h)
      · have h := h.2 c9
        refine G_sipush (v := -1000) hO dX5_tells_24 rfl ?_
        exact G_iret hO dX5_tells_27 rfl rfl (QI.i h)
def wp_X5_film (Γ : Gx) (d : Nat) (p1 : Int32) (p2 : Int32) (p3 : Int32) (w : Wd) (Q : Int32 → Wd → Prop) : Prop :=
  ∀ (P_43 : Int32 → Wd → Prop),
  (∀ (l4 : Int32) (w : Wd), ((p3 ≤ l4 → CV Γ d M_X5_restores [.ref (gad Γ 0)] w (fun w16 => Q p3 w16)) ∧ (¬ p3 ≤ l4 → CV Γ d M_X5_passes [.ref (gad Γ 0)] w (fun w18 => (vp_in p2 5 ∧ (vp_in (((40 : Int32) * p1) + l4) 160 ∧ (∀ w21 : Wd, w21 = wset w18 19 ((((40 : Int32) * p1) + l4)).toNatClampNeg (w18 4 (p2).toNatClampNeg) → P_43 (l4 + 1) w21)))))) → P_43 l4 w) →
  CI Γ d M_X5_isSheet [.int p1] w (fun r1 w2 => ((r1 = 0 → Q (-2 : Int32) w2) ∧ (¬ r1 = 0 → CI Γ d M_X5_isOne [.ref (gad Γ 0), .int p2] w2 (fun r4 w5 => ((r4 = 0 → Q (-2 : Int32) w5) ∧ (¬ r4 = 0 → CI Γ d M_X5_within [.int p3, .int (0 : Int32), .int (10 : Int32)] w5 (fun r7 w8 => ((¬ r7 = 0 → CI Γ d M_X5_sheet [.ref (gad Γ 0), .int p1, .int (0 : Int32), .int p3] w8 (fun r10 w11 => CV Γ d M_X5_keeps [.ref (gad Γ 0)] w11 (fun w13 => P_43 (0 : Int32) w13))) ∧ (r7 = 0 → Q (-2 : Int32) w8)))))))))
set_option maxRecDepth 20000 in
theorem con_X5_film {Γ : Gx} {d : Nat} (hG : GM Γ) {p1 : Int32} {p2 : Int32} {p3 : Int32}  {w : Wd} {Q : Int32 → Wd → Prop} (h : wp_X5_film Γ d p1 p2 p3 w Q) : CI Γ (d + 1) M_X5_film [.ref (gad Γ 0), .int p1, .int p2, .int p3] w Q := by
  have hC := hG.2
  refine Con.of RX5 cX5_film 5 (some .int) [some (.ref (gad Γ 0)), some (.int p1), some (.int p2), some (.int p3), none] rfl rfl (by decide +kernel) hG.1 (catR (catI (catI (catI cat0)))) (Nat.le_of_ble_eq_true rfl) rfl ?_
  intro X hO
  have h := h
    (fun (l4 : Int32) (w : Wd) => GG Γ X (d + 1) 5 (QI Q) 43 [some (.ref (gad Γ 0)), some (.int p1), some (.int p2), some (.int p3), some (.int l4)] [] w)
    (by
        intro l4 w h
        refine G_iload hO dX5_film_43 rfl ?_
        refine G_iload_n hO dX5_film_45 rfl rfl ?_
        refine G_icmp_ge (tgt := 77) hO dX5_film_46 (by decide) (fun c14 => ?_) (fun c14 => ?_)
        · have h := h.1 c14
          refine G_aload_n hO dX5_film_77 rfl rfl ?_
          refine G_callVv hO dX5_film_78 h cl_X5_258 (ShM.c0 hC) rfl rfl (Nat.le_of_ble_eq_true rfl) (fun w16 h => ?_) rfl
          refine G_iload_n hO dX5_film_81 rfl rfl ?_
          exact G_iret hO dX5_film_82 rfl rfl (QI.i h)
        · have h := h.2 c14
          refine G_aload_n hO dX5_film_49 rfl rfl ?_
          refine G_callVv hO dX5_film_50 h cl_X5_246 (ShM.c0 hC) rfl rfl (Nat.le_of_ble_eq_true rfl) (fun w18 h => ?_) rfl
          refine G_aload_n hO dX5_film_53 rfl rfl ?_
          refine gr_X5_65 (c := 19) hO dX5_film_54 (ShM.c0 hC) rfl ?_
          refine G_bipush (v := 40) hO dX5_film_57 rfl ?_
          refine G_iload_n hO dX5_film_59 rfl rfl ?_
          refine G_imul hO dX5_film_60 ?_
          refine G_iload hO dX5_film_61 rfl ?_
          refine G_iadd hO dX5_film_63 ?_
          refine G_aload_n hO dX5_film_64 rfl rfl ?_
          refine gr_X5_20 (c := 4) hO dX5_film_65 (ShM.c0 hC) rfl ?_
          refine G_iload_n hO dX5_film_68 rfl rfl ?_
          refine GG.atpc (pc2 := 69) rfl ?_
          obtain ⟨c19, h⟩ := h
          refine G_iaload hO dX5_film_69 (ShM.c4 hC) c19 ?_
          obtain ⟨c20, h⟩ := h
          refine G_iastore hO dX5_film_70 (ShM.c19 hC) c20 ?_
          refine GG.nmw (fun w21 e22 => ?_)
          have h := h w21 e22
          refine G_iinc (v := (l4 + 1)) (lv2 := [some (.ref (gad Γ 0)), some (.int p1), some (.int p2), some (.int p3), some (.int (l4 + 1))]) hO dX5_film_71 rfl rfl (by decide) rfl rfl ?_
          refine G_goto (tgt := 43) hO dX5_film_74 (by decide) ?_
          exact GG.sub (lv2 := [some (.ref (gad Γ 0)), some (.int p1), some (.int p2), some (.int p3), some (.int (l4 + 1))]) ⟨rfl, ⟨rfl, ⟨rfl, ⟨rfl, ⟨rfl, trivial⟩⟩⟩⟩⟩ h)
  refine G_iload_n hO dX5_film_0 rfl rfl ?_
  refine G_callSi hO dX5_film_1 h cl_X5_279 rfl (Nat.le_of_ble_eq_true rfl) (fun r1 w2 h => ?_) rfl
  refine G_if_eq (tgt := 25) hO dX5_film_4 (by decide) (fun c3 => ?_) (fun c3 => ?_)
  · have h := h.1 c3
    refine G_bipush (v := -2) hO dX5_film_25 rfl ?_
    exact G_iret hO dX5_film_27 rfl rfl (QI.i h)
  · have h := h.2 c3
    refine G_aload_n hO dX5_film_7 rfl rfl ?_
    refine G_iload_n hO dX5_film_8 rfl rfl ?_
    refine G_callVi hO dX5_film_9 h cl_X5_86 (ShM.c0 hC) rfl rfl (Nat.le_of_ble_eq_true rfl) (fun r4 w5 h => ?_) rfl
    refine G_if_eq (tgt := 25) hO dX5_film_12 (by decide) (fun c6 => ?_) (fun c6 => ?_)
    · have h := h.1 c6
      refine G_bipush (v := -2) hO dX5_film_25 rfl ?_
      exact G_iret hO dX5_film_27 rfl rfl (QI.i h)
    · have h := h.2 c6
      refine G_iload_n hO dX5_film_15 rfl rfl ?_
      refine G_iconst (v := 0) hO dX5_film_16 rfl ?_
      refine G_bipush (v := 10) hO dX5_film_17 rfl ?_
      refine G_callSi hO dX5_film_19 h cl_X5_82 rfl (Nat.le_of_ble_eq_true rfl) (fun r7 w8 h => ?_) rfl
      refine G_if_ne (tgt := 28) hO dX5_film_22 (by decide) (fun c9 => ?_) (fun c9 => ?_)
      · have h := h.1 c9
        refine G_aload_n hO dX5_film_28 rfl rfl ?_
        refine G_iload_n hO dX5_film_29 rfl rfl ?_
        refine G_iconst (v := 0) hO dX5_film_30 rfl ?_
        refine G_iload_n hO dX5_film_31 rfl rfl ?_
        refine G_callVi hO dX5_film_32 h cl_X5_294 (ShM.c0 hC) rfl rfl (Nat.le_of_ble_eq_true rfl) (fun r10 w11 h => ?_) rfl
        refine G_pop hO dX5_film_35 rfl ?_
        refine G_aload_n hO dX5_film_36 rfl rfl ?_
        refine G_callVv hO dX5_film_37 h cl_X5_252 (ShM.c0 hC) rfl rfl (Nat.le_of_ble_eq_true rfl) (fun w13 h => ?_) rfl
        refine G_iconst (v := 0) hO dX5_film_40 rfl ?_
        refine G_istore (lv2 := [some (.ref (gad Γ 0)), some (.int p1), some (.int p2), some (.int p3), some (.int (0 : Int32))]) hO dX5_film_41 (by decide) rfl rfl ?_
        exact GG.sub (lv2 := [some (.ref (gad Γ 0)), some (.int p1), some (.int p2), some (.int p3), some (.int (0 : Int32))]) ⟨rfl, ⟨rfl, ⟨rfl, ⟨rfl, ⟨rfl, trivial⟩⟩⟩⟩⟩ h
      · have h := h.2 c9
        refine G_bipush (v := -2) hO dX5_film_25 rfl ?_
        exact G_iret hO dX5_film_27 rfl rfl (QI.i h)
def wp_X5_drawn (Γ : Gx) (d : Nat) (p1 : Int32) (w : Wd) (Q : Int32 → Wd → Prop) : Prop :=
  CI Γ d M_X5_byLot [.ref (gad Γ 0), .int p1] w (fun r1 w2 => Q r1 w2)
set_option maxRecDepth 20000 in
theorem con_X5_drawn {Γ : Gx} {d : Nat} (hG : GM Γ) {p1 : Int32}  {w : Wd} {Q : Int32 → Wd → Prop} (h : wp_X5_drawn Γ d p1 w Q) : CI Γ (d + 1) M_X5_drawn [.ref (gad Γ 0), .int p1] w Q := by
  have hC := hG.2
  refine Con.of RX5 cX5_drawn 2 (some .int) [some (.ref (gad Γ 0)), some (.int p1)] rfl rfl (by decide +kernel) hG.1 (catR (catI cat0)) (Nat.le_of_ble_eq_true rfl) rfl ?_
  intro X hO
  refine G_aload_n hO dX5_drawn_0 rfl rfl ?_
  refine G_iload_n hO dX5_drawn_1 rfl rfl ?_
  refine G_callVi hO dX5_drawn_2 h cl_X5_297 (ShM.c0 hC) rfl rfl (Nat.le_of_ble_eq_true rfl) (fun r1 w2 h => ?_) rfl
  exact G_iret hO dX5_drawn_5 rfl rfl (QI.i h)
def wp_X5_byLot (Γ : Gx) (d : Nat) (p1 : Int32) (w : Wd) (Q : Int32 → Wd → Prop) : Prop :=
  ∀ (P_2 : Int32 → Wd → Prop),
  ∀ (P_29 : Int32 → Int32 → Wd → Prop),
  ∀ (P_78 : Int32 → Int32 → Wd → Prop),
  (∀ (l2 : Int32) (w : Wd), (((5 : Int32) ≤ l2 → P_29 p1 (0 : Int32) w) ∧ (¬ (5 : Int32) ≤ l2 → (vp_in l2 5 ∧ (vp_in l2 205 ∧ (∀ w4 : Wd, w4 = wset w 14 (l2).toNatClampNeg (w 4 (l2).toNatClampNeg) → P_2 (l2 + 1) w4))))) → P_2 l2 w) →
  (∀ (l2 : Int32) (l3 : Int32) (w : Wd), (((w 0 2) ≤ l3 → CI Γ d M_X5_gladBehind [.ref (gad Γ 0), .int (5 : Int32)] w (fun r7 w8 => P_78 r7 (0 : Int32) w8)) ∧ (¬ (w 0 2) ≤ l3 → (∀ v9 : Int32, v9 = ((l2 * (1103515245 : Int32)) + (12345 : Int32)) → (vp_in l3 5 ∧ (∀ w12 : Wd, w12 = wset w 4 (l3).toNatClampNeg ((((v9.toUInt32 >>> ((9 : Int32).toUInt32 &&& Int32.toUInt32 31)).toInt32) - (((v9.toUInt32 >>> ((9 : Int32).toUInt32 &&& Int32.toUInt32 31)).toInt32) / (41 : Int32)) * (41 : Int32)) - (20 : Int32)) → P_29 v9 (l3 + 1) w12))))) → P_29 l2 l3 w) →
  (∀ (l3 : Int32) (l4 : Int32) (w : Wd), (((5 : Int32) ≤ l4 → Q l3 w) ∧ (¬ (5 : Int32) ≤ l4 → (vp_in l4 205 ∧ (vp_in l4 5 ∧ (∀ w17 : Wd, w17 = wset w 4 (l4).toNatClampNeg (w 14 (l4).toNatClampNeg) → P_78 l3 (l4 + 1) w17))))) → P_78 l3 l4 w) →
  P_2 (0 : Int32) w
set_option maxRecDepth 20000 in
theorem con_X5_byLot {Γ : Gx} {d : Nat} (hG : GM Γ) {p1 : Int32}  {w : Wd} {Q : Int32 → Wd → Prop} (h : wp_X5_byLot Γ d p1 w Q) : CI Γ (d + 1) M_X5_byLot [.ref (gad Γ 0), .int p1] w Q := by
  have hC := hG.2
  refine Con.of RX5 cX5_byLot 5 (some .int) [some (.ref (gad Γ 0)), some (.int p1), none, none, none] rfl rfl (by decide +kernel) hG.1 (catR (catI cat0)) (Nat.le_of_ble_eq_true rfl) rfl ?_
  intro X hO
  have h := h
    (fun (l2 : Int32) (w : Wd) => GG Γ X (d + 1) 5 (QI Q) 2 [some (.ref (gad Γ 0)), some (.int p1), some (.int l2), none, none] [] w)
    (fun (l2 : Int32) (l3 : Int32) (w : Wd) => GG Γ X (d + 1) 5 (QI Q) 29 [some (.ref (gad Γ 0)), none, some (.int l2), some (.int l3), none] [] w)
    (fun (l3 : Int32) (l4 : Int32) (w : Wd) => GG Γ X (d + 1) 5 (QI Q) 78 [some (.ref (gad Γ 0)), none, none, some (.int l3), some (.int l4)] [] w)
    (by
        intro l2 w h
        refine G_iload_n hO dX5_byLot_2 rfl rfl ?_
        refine G_iconst (v := 5) hO dX5_byLot_3 rfl ?_
        refine G_icmp_ge (tgt := 25) hO dX5_byLot_4 (by decide) (fun c1 => ?_) (fun c1 => ?_)
        · have h := h.1 c1
          refine G_iload_n hO dX5_byLot_25 rfl rfl ?_
          refine G_istore_n (lv2 := [some (.ref (gad Γ 0)), some (.int p1), some (.int p1), none, none]) hO dX5_byLot_26 rfl (by decide) rfl rfl ?_
          refine G_iconst (v := 0) hO dX5_byLot_27 rfl ?_
          refine G_istore_n (lv2 := [some (.ref (gad Γ 0)), some (.int p1), some (.int p1), some (.int (0 : Int32)), none]) hO dX5_byLot_28 rfl (by decide) rfl rfl ?_
          exact GG.sub (lv2 := [some (.ref (gad Γ 0)), none, some (.int p1), some (.int (0 : Int32)), none]) ⟨rfl, ⟨rfl, ⟨rfl, trivial⟩⟩⟩ h
        · have h := h.2 c1
          refine G_aload_n hO dX5_byLot_7 rfl rfl ?_
          refine gr_X5_50 (c := 14) hO dX5_byLot_8 (ShM.c0 hC) rfl ?_
          refine G_iload_n hO dX5_byLot_11 rfl rfl ?_
          refine G_aload_n hO dX5_byLot_12 rfl rfl ?_
          refine gr_X5_20 (c := 4) hO dX5_byLot_13 (ShM.c0 hC) rfl ?_
          refine G_iload_n hO dX5_byLot_16 rfl rfl ?_
          obtain ⟨c2, h⟩ := h
          refine G_iaload hO dX5_byLot_17 (ShM.c4 hC) c2 ?_
          obtain ⟨c3, h⟩ := h
          refine G_iastore hO dX5_byLot_18 (ShM.c14 hC) c3 ?_
          refine GG.nmw (fun w4 e5 => ?_)
          have h := h w4 e5
          refine G_iinc (v := (l2 + 1)) (lv2 := [some (.ref (gad Γ 0)), some (.int p1), some (.int (l2 + 1)), none, none]) hO dX5_byLot_19 rfl rfl (by decide) rfl rfl ?_
          refine G_goto (tgt := 2) hO dX5_byLot_22 (by decide) ?_
          exact GG.sub (lv2 := [some (.ref (gad Γ 0)), some (.int p1), some (.int (l2 + 1)), none, none]) ⟨rfl, ⟨rfl, ⟨rfl, trivial⟩⟩⟩ h)
    (by
        intro l2 l3 w h
        refine G_iload_n hO dX5_byLot_29 rfl rfl ?_
        refine G_aload_n hO dX5_byLot_30 rfl rfl ?_
        refine gi_X5_79 hO dX5_byLot_31 (ShM.c0 hC) rfl ?_
        refine G_icmp_ge (tgt := 69) hO dX5_byLot_34 (by decide) (fun c6 => ?_) (fun c6 => ?_)
        · have h := h.1 c6
          refine G_aload_n hO dX5_byLot_69 rfl rfl ?_
          refine G_iconst (v := 5) hO dX5_byLot_70 rfl ?_
          refine G_callVi hO dX5_byLot_71 h cl_X5_273 (ShM.c0 hC) rfl rfl (Nat.le_of_ble_eq_true rfl) (fun r7 w8 h => ?_) rfl
          refine G_istore_n (lv2 := [some (.ref (gad Γ 0)), none, some (.int l2), some (.int r7), none]) hO dX5_byLot_74 rfl (by decide) rfl rfl ?_
          refine G_iconst (v := 0) hO dX5_byLot_75 rfl ?_
          refine G_istore (lv2 := [some (.ref (gad Γ 0)), none, some (.int l2), some (.int r7), some (.int (0 : Int32))]) hO dX5_byLot_76 (by decide) rfl rfl ?_
          exact GG.sub (lv2 := [some (.ref (gad Γ 0)), none, none, some (.int r7), some (.int (0 : Int32))]) ⟨rfl, ⟨rfl, ⟨rfl, trivial⟩⟩⟩ h
        · have h := h.2 c6
          refine G_iload_n hO dX5_byLot_37 rfl rfl ?_
          refine G_ldc_w (v := 1103515245) hO dX5_byLot_38 kc_X5_300 ?_
          refine G_imul hO dX5_byLot_41 ?_
          refine G_sipush (v := 12345) hO dX5_byLot_42 rfl ?_
          refine G_iadd hO dX5_byLot_45 ?_
          refine GG.nmi (fun v9 e10 => ?_)
          have h := h v9 e10
          refine G_istore_n (lv2 := [some (.ref (gad Γ 0)), none, some (.int v9), some (.int l3), none]) hO dX5_byLot_46 rfl (by decide) rfl rfl ?_
          refine G_aload_n hO dX5_byLot_47 rfl rfl ?_
          refine gr_X5_20 (c := 4) hO dX5_byLot_48 (ShM.c0 hC) rfl ?_
          refine G_iload_n hO dX5_byLot_51 rfl rfl ?_
          refine G_iload_n hO dX5_byLot_52 rfl rfl ?_
          refine G_bipush (v := 9) hO dX5_byLot_53 rfl ?_
          refine G_iushr hO dX5_byLot_55 ?_
          refine GG.atpc (pc2 := 56) rfl ?_
          refine G_bipush (v := 41) hO dX5_byLot_56 rfl ?_
          refine G_irem hO dX5_byLot_58 (by decide) ?_
          refine G_bipush (v := 20) hO dX5_byLot_59 rfl ?_
          refine G_isub hO dX5_byLot_61 ?_
          obtain ⟨c11, h⟩ := h
          refine G_iastore hO dX5_byLot_62 (ShM.c4 hC) c11 ?_
          refine GG.nmw (fun w12 e13 => ?_)
          have h := h w12 e13
          refine G_iinc (v := (l3 + 1)) (lv2 := [some (.ref (gad Γ 0)), none, some (.int v9), some (.int (l3 + 1)), none]) hO dX5_byLot_63 rfl rfl (by decide) rfl rfl ?_
          refine G_goto (tgt := 29) hO dX5_byLot_66 (by decide) ?_
          exact GG.sub (lv2 := [some (.ref (gad Γ 0)), none, some (.int v9), some (.int (l3 + 1)), none]) ⟨rfl, ⟨rfl, ⟨rfl, trivial⟩⟩⟩ h)
    (by
        intro l3 l4 w h
        refine G_iload hO dX5_byLot_78 rfl ?_
        refine G_iconst (v := 5) hO dX5_byLot_80 rfl ?_
        refine G_icmp_ge (tgt := 104) hO dX5_byLot_81 (by decide) (fun c14 => ?_) (fun c14 => ?_)
        · have h := h.1 c14
          refine G_iload_n hO dX5_byLot_104 rfl rfl ?_
          exact G_iret hO dX5_byLot_105 rfl rfl (QI.i h)
        · have h := h.2 c14
          refine G_aload_n hO dX5_byLot_84 rfl rfl ?_
          refine gr_X5_20 (c := 4) hO dX5_byLot_85 (ShM.c0 hC) rfl ?_
          refine G_iload hO dX5_byLot_88 rfl ?_
          refine G_aload_n hO dX5_byLot_90 rfl rfl ?_
          refine gr_X5_50 (c := 14) hO dX5_byLot_91 (ShM.c0 hC) rfl ?_
          refine G_iload hO dX5_byLot_94 rfl ?_
          obtain ⟨c15, h⟩ := h
          refine G_iaload hO dX5_byLot_96 (ShM.c14 hC) c15 ?_
          obtain ⟨c16, h⟩ := h
          refine G_iastore hO dX5_byLot_97 (ShM.c4 hC) c16 ?_
          refine GG.nmw (fun w17 e18 => ?_)
          have h := h w17 e18
          refine G_iinc (v := (l4 + 1)) (lv2 := [some (.ref (gad Γ 0)), none, none, some (.int l3), some (.int (l4 + 1))]) hO dX5_byLot_98 rfl rfl (by decide) rfl rfl ?_
          refine G_goto (tgt := 78) hO dX5_byLot_101 (by decide) ?_
          exact GG.sub (lv2 := [some (.ref (gad Γ 0)), none, none, some (.int l3), some (.int (l4 + 1))]) ⟨rfl, ⟨rfl, ⟨rfl, trivial⟩⟩⟩ h)
  refine G_iconst (v := 0) hO dX5_byLot_0 rfl ?_
  refine G_istore_n (lv2 := [some (.ref (gad Γ 0)), some (.int p1), some (.int (0 : Int32)), none, none]) hO dX5_byLot_1 rfl (by decide) rfl rfl ?_
  exact GG.sub (lv2 := [some (.ref (gad Γ 0)), some (.int p1), some (.int (0 : Int32)), none, none]) ⟨rfl, ⟨rfl, ⟨rfl, trivial⟩⟩⟩ h
def wp_X5_chance (Γ : Gx) (d : Nat) (p1 : Int32) (p2 : Int32) (p3 : Int32) (p4 : Int32) (w : Wd) (Q : Int64 → Wd → Prop) : Prop :=
  ∀ (P_41 : Int32 → Int32 → Wd → Prop),
  ∀ (P_75 : Int32 → Int32 → Int32 → Wd → Prop),
  (∀ (l5 : Int32) (l6 : Int32) (w : Wd), ((p2 ≤ l6 → P_75 l5 l5 p2 w) ∧ (¬ p2 ≤ l6 → CI Γ d M_X5_byLot [.ref (gad Γ 0), .int (p1 + l6)] w (fun r11 w12 => ((r11 < p3 → P_41 l5 (l6 + 1) w12) ∧ (¬ r11 < p3 → P_41 (l5 + 1) (l6 + 1) w12))))) → P_41 l5 l6 w) →
  (∀ (l5 : Int32) (l6 : Int32) (l7 : Int32) (w : Wd), ((l7 = 0 → ((¬ p4 = 0 → (¬ l6 = 0 ∧ Q ((p2 / l6).toInt64) w)) ∧ (p4 = 0 → (¬ l6 = 0 ∧ Q ((l5 / l6).toInt64) w)))) ∧ (¬ l7 = 0 → (¬ l7 = 0 ∧ P_75 l5 l7 (l6 - (l6 / l7) * l7) w))) → P_75 l5 l6 l7 w) →
  CI Γ d M_X5_within [.int p2, .int (1 : Int32), .int (20 : Int32)] w (fun r1 w2 => ((r1 = 0 → Q (-4611686018427387904 : Int64) w2) ∧ (¬ r1 = 0 → CI Γ d M_X5_within [.int p3, .int (-100 : Int32), .int (100 : Int32)] w2 (fun r4 w5 => ((r4 = 0 → Q (-4611686018427387904 : Int64) w5) ∧ (¬ r4 = 0 → CI Γ d M_X5_within [.int p4, .int (0 : Int32), .int (1 : Int32)] w5 (fun r7 w8 => ((¬ r7 = 0 → P_41 (0 : Int32) (0 : Int32) w8) ∧ (r7 = 0 → Q (-4611686018427387904 : Int64) w8)))))))))
set_option maxRecDepth 20000 in
theorem con_X5_chance {Γ : Gx} {d : Nat} (hG : GM Γ) {p1 : Int32} {p2 : Int32} {p3 : Int32} {p4 : Int32}  {w : Wd} {Q : Int64 → Wd → Prop} (h : wp_X5_chance Γ d p1 p2 p3 p4 w Q) : CL Γ (d + 1) M_X5_chance [.ref (gad Γ 0), .int p1, .int p2, .int p3, .int p4] w Q := by
  have hC := hG.2
  refine Con.of RX5 cX5_chance 9 (some .long) [some (.ref (gad Γ 0)), some (.int p1), some (.int p2), some (.int p3), some (.int p4), none, none, none, none] rfl rfl (by decide +kernel) hG.1 (catR (catI (catI (catI (catI cat0))))) (Nat.le_of_ble_eq_true rfl) rfl ?_
  intro X hO
  have h := h
    (fun (l5 : Int32) (l6 : Int32) (w : Wd) => GG Γ X (d + 1) 9 (QL Q) 41 [some (.ref (gad Γ 0)), some (.int p1), some (.int p2), some (.int p3), some (.int p4), some (.int l5), some (.int l6), none, none] [] w)
    (fun (l5 : Int32) (l6 : Int32) (l7 : Int32) (w : Wd) => GG Γ X (d + 1) 9 (QL Q) 75 [none, none, some (.int p2), none, some (.int p4), some (.int l5), some (.int l6), some (.int l7), none] [] w)
    (by
        intro l5 l6 w h
        refine G_iload hO dX5_chance_41 rfl ?_
        refine G_iload_n hO dX5_chance_43 rfl rfl ?_
        refine G_icmp_ge (tgt := 68) hO dX5_chance_44 (by decide) (fun c10 => ?_) (fun c10 => ?_)
        · have h := h.1 c10
          refine G_iload hO dX5_chance_68 rfl ?_
          refine G_istore (lv2 := [some (.ref (gad Γ 0)), some (.int p1), some (.int p2), some (.int p3), some (.int p4), some (.int l5), some (.int l5), none, none]) hO dX5_chance_70 (by decide) rfl rfl ?_
          refine G_iload_n hO dX5_chance_72 rfl rfl ?_
          refine G_istore (lv2 := [some (.ref (gad Γ 0)), some (.int p1), some (.int p2), some (.int p3), some (.int p4), some (.int l5), some (.int l5), some (.int p2), none]) hO dX5_chance_73 (by decide) rfl rfl ?_
          exact GG.sub (lv2 := [none, none, some (.int p2), none, some (.int p4), some (.int l5), some (.int l5), some (.int p2), none]) ⟨rfl, ⟨rfl, ⟨rfl, ⟨rfl, ⟨rfl, trivial⟩⟩⟩⟩⟩ h
        · have h := h.2 c10
          refine G_aload_n hO dX5_chance_47 rfl rfl ?_
          refine G_iload_n hO dX5_chance_48 rfl rfl ?_
          refine G_iload hO dX5_chance_49 rfl ?_
          refine G_iadd hO dX5_chance_51 ?_
          refine G_callVi hO dX5_chance_52 h cl_X5_297 (ShM.c0 hC) rfl rfl (Nat.le_of_ble_eq_true rfl) (fun r11 w12 h => ?_) rfl
          refine G_iload_n hO dX5_chance_55 rfl rfl ?_
          refine G_icmp_lt (tgt := 62) hO dX5_chance_56 (by decide) (fun c13 => ?_) (fun c13 => ?_)
          · have h := h.1 c13
            refine G_iinc (v := (l6 + 1)) (lv2 := [some (.ref (gad Γ 0)), some (.int p1), some (.int p2), some (.int p3), some (.int p4), some (.int l5), some (.int (l6 + 1)), none, none]) hO dX5_chance_62 rfl rfl (by decide) rfl rfl ?_
            refine G_goto (tgt := 41) hO dX5_chance_65 (by decide) ?_
            exact GG.sub (lv2 := [some (.ref (gad Γ 0)), some (.int p1), some (.int p2), some (.int p3), some (.int p4), some (.int l5), some (.int (l6 + 1)), none, none]) ⟨rfl, ⟨rfl, ⟨rfl, ⟨rfl, ⟨rfl, ⟨rfl, ⟨rfl, trivial⟩⟩⟩⟩⟩⟩⟩ h
          · have h := h.2 c13
            refine G_iinc (v := (l5 + 1)) (lv2 := [some (.ref (gad Γ 0)), some (.int p1), some (.int p2), some (.int p3), some (.int p4), some (.int (l5 + 1)), some (.int l6), none, none]) hO dX5_chance_59 rfl rfl (by decide) rfl rfl ?_
            refine G_iinc (v := (l6 + 1)) (lv2 := [some (.ref (gad Γ 0)), some (.int p1), some (.int p2), some (.int p3), some (.int p4), some (.int (l5 + 1)), some (.int (l6 + 1)), none, none]) hO dX5_chance_62 rfl rfl (by decide) rfl rfl ?_
            refine G_goto (tgt := 41) hO dX5_chance_65 (by decide) ?_
            exact GG.sub (lv2 := [some (.ref (gad Γ 0)), some (.int p1), some (.int p2), some (.int p3), some (.int p4), some (.int (l5 + 1)), some (.int (l6 + 1)), none, none]) ⟨rfl, ⟨rfl, ⟨rfl, ⟨rfl, ⟨rfl, ⟨rfl, ⟨rfl, trivial⟩⟩⟩⟩⟩⟩⟩ h)
    (by
        intro l5 l6 l7 w h
        refine G_iload hO dX5_chance_75 rfl ?_
        refine G_if_eq (tgt := 98) hO dX5_chance_77 (by decide) (fun c14 => ?_) (fun c14 => ?_)
        · have h := h.1 c14
          refine G_iload hO dX5_chance_98 rfl ?_
          refine G_if_ne (tgt := 112) hO dX5_chance_100 (by decide) (fun c15 => ?_) (fun c15 => ?_)
          · have h := h.1 c15
            refine G_iload_n hO dX5_chance_112 rfl rfl ?_
            refine G_iload hO dX5_chance_113 rfl ?_
            obtain ⟨c16, h⟩ := h
            refine G_idiv hO dX5_chance_115 c16 ?_
            refine G_i2l hO dX5_chance_116 ?_
            exact G_lret hO dX5_chance_117 rfl (QL.i h)
          · have h := h.2 c15
            refine G_iload hO dX5_chance_103 rfl ?_
            refine G_iload hO dX5_chance_105 rfl ?_
            obtain ⟨c17, h⟩ := h
            refine G_idiv hO dX5_chance_107 c17 ?_
            refine G_i2l hO dX5_chance_108 ?_
            refine G_goto (tgt := 117) hO dX5_chance_109 (by decide) ?_
            exact G_lret hO dX5_chance_117 rfl (QL.i h)
        · have h := h.2 c14
          refine G_iload hO dX5_chance_80 rfl ?_
          refine G_iload hO dX5_chance_82 rfl ?_
          obtain ⟨c18, h⟩ := h
          refine G_irem hO dX5_chance_84 c18 ?_
          refine G_istore (lv2 := [none, none, some (.int p2), none, some (.int p4), some (.int l5), some (.int l6), some (.int l7), some (.int (l6 - (l6 / l7) * l7))]) hO dX5_chance_85 (by decide) rfl rfl ?_
          refine G_iload hO dX5_chance_87 rfl ?_
          refine G_istore (lv2 := [none, none, some (.int p2), none, some (.int p4), some (.int l5), some (.int l7), some (.int l7), some (.int (l6 - (l6 / l7) * l7))]) hO dX5_chance_89 (by decide) rfl rfl ?_
          refine G_iload hO dX5_chance_91 rfl ?_
          refine G_istore (lv2 := [none, none, some (.int p2), none, some (.int p4), some (.int l5), some (.int l7), some (.int (l6 - (l6 / l7) * l7)), some (.int (l6 - (l6 / l7) * l7))]) hO dX5_chance_93 (by decide) rfl rfl ?_
          refine G_goto (tgt := 75) hO dX5_chance_95 (by decide) ?_
          exact GG.sub (lv2 := [none, none, some (.int p2), none, some (.int p4), some (.int l5), some (.int l7), some (.int (l6 - (l6 / l7) * l7)), none]) ⟨rfl, ⟨rfl, ⟨rfl, ⟨rfl, ⟨rfl, trivial⟩⟩⟩⟩⟩ h)
  refine G_iload_n hO dX5_chance_0 rfl rfl ?_
  refine G_iconst (v := 1) hO dX5_chance_1 rfl ?_
  refine G_bipush (v := 20) hO dX5_chance_2 rfl ?_
  refine G_callSi hO dX5_chance_4 h cl_X5_82 rfl (Nat.le_of_ble_eq_true rfl) (fun r1 w2 h => ?_) rfl
  refine G_if_eq (tgt := 31) hO dX5_chance_7 (by decide) (fun c3 => ?_) (fun c3 => ?_)
  · have h := h.1 c3
    refine G_ldc2_w (v := -4611686018427387904) hO dX5_chance_31 kc_X5_301 ?_
    exact G_lret hO dX5_chance_34 rfl (QL.i h)
  · have h := h.2 c3
    refine G_iload_n hO dX5_chance_10 rfl rfl ?_
    refine G_bipush (v := -100) hO dX5_chance_11 rfl ?_
    refine G_bipush (v := 100) hO dX5_chance_13 rfl ?_
    refine G_callSi hO dX5_chance_15 h cl_X5_82 rfl (Nat.le_of_ble_eq_true rfl) (fun r4 w5 h => ?_) rfl
    refine G_if_eq (tgt := 31) hO dX5_chance_18 (by decide) (fun c6 => ?_) (fun c6 => ?_)
    · have h := h.1 c6
      refine G_ldc2_w (v := -4611686018427387904) hO dX5_chance_31 kc_X5_301 ?_
      exact G_lret hO dX5_chance_34 rfl (QL.i h)
    · have h := h.2 c6
      refine G_iload hO dX5_chance_21 rfl ?_
      refine G_iconst (v := 0) hO dX5_chance_23 rfl ?_
      refine G_iconst (v := 1) hO dX5_chance_24 rfl ?_
      refine G_callSi hO dX5_chance_25 h cl_X5_82 rfl (Nat.le_of_ble_eq_true rfl) (fun r7 w8 h => ?_) rfl
      refine G_if_ne (tgt := 35) hO dX5_chance_28 (by decide) (fun c9 => ?_) (fun c9 => ?_)
      · have h := h.1 c9
        refine G_iconst (v := 0) hO dX5_chance_35 rfl ?_
        refine G_istore (lv2 := [some (.ref (gad Γ 0)), some (.int p1), some (.int p2), some (.int p3), some (.int p4), some (.int (0 : Int32)), none, none, none]) hO dX5_chance_36 (by decide) rfl rfl ?_
        refine G_iconst (v := 0) hO dX5_chance_38 rfl ?_
        refine G_istore (lv2 := [some (.ref (gad Γ 0)), some (.int p1), some (.int p2), some (.int p3), some (.int p4), some (.int (0 : Int32)), some (.int (0 : Int32)), none, none]) hO dX5_chance_39 (by decide) rfl rfl ?_
        exact GG.sub (lv2 := [some (.ref (gad Γ 0)), some (.int p1), some (.int p2), some (.int p3), some (.int p4), some (.int (0 : Int32)), some (.int (0 : Int32)), none, none]) ⟨rfl, ⟨rfl, ⟨rfl, ⟨rfl, ⟨rfl, ⟨rfl, ⟨rfl, trivial⟩⟩⟩⟩⟩⟩⟩ h
      · have h := h.2 c9
        refine G_ldc2_w (v := -4611686018427387904) hO dX5_chance_31 kc_X5_301 ?_
        exact G_lret hO dX5_chance_34 rfl (QL.i h)
def wp_X5_image (Γ : Gx) (d : Nat)  (w : Wd) (Q : Int32 → Wd → Prop) : Prop :=
  ∀ (P_31 : Int32 → Wd → Prop),
  ∀ (P_57 : Int32 → Wd → Prop),
  (∀ (l1 : Int32) (w : Wd), (((8 : Int32) ≤ l1 → P_57 (0 : Int32) w) ∧ (¬ (8 : Int32) ≤ l1 → (vp_in l1 8 ∧ (isZ (w 1 (l1).toNatClampNeg) ∧ (∀ w12 : Wd, w12 = wset w 15 (l1).toNatClampNeg (w 1 (l1).toNatClampNeg) → P_31 (l1 + 1) w12))))) → P_31 l1 w) →
  (∀ (l1 : Int32) (w : Wd), (((5 : Int32) ≤ l1 → Q (w 0 2) w) ∧ (¬ (5 : Int32) ≤ l1 → (vp_in l1 5 ∧ (vp_in l1 10 ∧ (∀ w17 : Wd, w17 = wset w 16 (l1).toNatClampNeg (w 3 (l1).toNatClampNeg) → (vp_in ((5 : Int32) + l1) 10 ∧ (∀ w20 : Wd, w20 = wset w17 16 (((5 : Int32) + l1)).toNatClampNeg (w17 4 (l1).toNatClampNeg) → P_57 (l1 + 1) w20))))))) → P_57 l1 w) →
  (∀ w1 : Wd, w1 = wset w 0 32 (1 : Int32) → (∀ w3 : Wd, w3 = wset w1 0 33 (w1 0 2) → (∀ w5 : Wd, w5 = wset w3 0 34 (w3 0 0) → (∀ w7 : Wd, w7 = wset w5 0 35 (w5 0 6) → P_31 (0 : Int32) w7))))
set_option maxRecDepth 20000 in
theorem con_X5_image {Γ : Gx} {d : Nat} (hG : GM Γ)   {w : Wd} {Q : Int32 → Wd → Prop} (h : wp_X5_image Γ d  w Q) : CI Γ (d + 1) M_X5_image [.ref (gad Γ 0)] w Q := by
  have hC := hG.2
  refine Con.of RX5 cX5_image 2 (some .int) [some (.ref (gad Γ 0)), none] rfl rfl (by decide +kernel) hG.1 (catR cat0) (Nat.le_of_ble_eq_true rfl) rfl ?_
  intro X hO
  have h := h
    (fun (l1 : Int32) (w : Wd) => GG Γ X (d + 1) 2 (QI Q) 31 [some (.ref (gad Γ 0)), some (.int l1)] [] w)
    (fun (l1 : Int32) (w : Wd) => GG Γ X (d + 1) 2 (QI Q) 57 [some (.ref (gad Γ 0)), some (.int l1)] [] w)
    (by
        intro l1 w h
        refine G_iload_n hO dX5_image_31 rfl rfl ?_
        refine G_bipush (v := 8) hO dX5_image_32 rfl ?_
        refine G_icmp_ge (tgt := 55) hO dX5_image_34 (by decide) (fun c9 => ?_) (fun c9 => ?_)
        · have h := h.1 c9
          refine G_iconst (v := 0) hO dX5_image_55 rfl ?_
          refine G_istore_n (lv2 := [some (.ref (gad Γ 0)), some (.int (0 : Int32))]) hO dX5_image_56 rfl (by decide) rfl rfl ?_
          exact GG.sub (lv2 := [some (.ref (gad Γ 0)), some (.int (0 : Int32))]) ⟨rfl, ⟨rfl, trivial⟩⟩ h
        · have h := h.2 c9
          refine G_aload_n hO dX5_image_37 rfl rfl ?_
          refine gr_X5_53 (c := 15) hO dX5_image_38 (ShM.c0 hC) rfl ?_
          refine G_iload_n hO dX5_image_41 rfl rfl ?_
          refine G_aload_n hO dX5_image_42 rfl rfl ?_
          refine gr_X5_7 (c := 1) hO dX5_image_43 (ShM.c0 hC) rfl ?_
          refine G_iload_n hO dX5_image_46 rfl rfl ?_
          obtain ⟨c10, h⟩ := h
          refine G_baload hO dX5_image_47 (ShM.c1 hC) c10 ?_
          obtain ⟨c11, h⟩ := h
          refine G_bastore hO dX5_image_48 (ShM.c15 hC) c10 c11.and ?_
          refine GG.nmw (fun w12 e13 => ?_)
          have h := h w12 e13
          refine G_iinc (v := (l1 + 1)) (lv2 := [some (.ref (gad Γ 0)), some (.int (l1 + 1))]) hO dX5_image_49 rfl rfl (by decide) rfl rfl ?_
          refine G_goto (tgt := 31) hO dX5_image_52 (by decide) ?_
          exact GG.sub (lv2 := [some (.ref (gad Γ 0)), some (.int (l1 + 1))]) ⟨rfl, ⟨rfl, trivial⟩⟩ h)
    (by
        intro l1 w h
        refine G_iload_n hO dX5_image_57 rfl rfl ?_
        refine G_iconst (v := 5) hO dX5_image_58 rfl ?_
        refine G_icmp_ge (tgt := 94) hO dX5_image_59 (by decide) (fun c14 => ?_) (fun c14 => ?_)
        · have h := h.1 c14
          refine G_aload_n hO dX5_image_94 rfl rfl ?_
          refine gi_X5_79 hO dX5_image_95 (ShM.c0 hC) rfl ?_
          exact G_iret hO dX5_image_98 rfl rfl (QI.i h)
        · have h := h.2 c14
          refine G_aload_n hO dX5_image_62 rfl rfl ?_
          refine gr_X5_56 (c := 16) hO dX5_image_63 (ShM.c0 hC) rfl ?_
          refine G_iload_n hO dX5_image_66 rfl rfl ?_
          refine G_aload_n hO dX5_image_67 rfl rfl ?_
          refine gr_X5_17 (c := 3) hO dX5_image_68 (ShM.c0 hC) rfl ?_
          refine G_iload_n hO dX5_image_71 rfl rfl ?_
          obtain ⟨c15, h⟩ := h
          refine G_iaload hO dX5_image_72 (ShM.c3 hC) c15 ?_
          obtain ⟨c16, h⟩ := h
          refine G_iastore hO dX5_image_73 (ShM.c16 hC) c16 ?_
          refine GG.nmw (fun w17 e18 => ?_)
          have h := h w17 e18
          refine G_aload_n hO dX5_image_74 rfl rfl ?_
          refine gr_X5_56 (c := 16) hO dX5_image_75 (ShM.c0 hC) rfl ?_
          refine G_iconst (v := 5) hO dX5_image_78 rfl ?_
          refine G_iload_n hO dX5_image_79 rfl rfl ?_
          refine GG.atpc (pc2 := 80) rfl ?_
          refine G_iadd hO dX5_image_80 ?_
          refine G_aload_n hO dX5_image_81 rfl rfl ?_
          refine gr_X5_20 (c := 4) hO dX5_image_82 (ShM.c0 hC) rfl ?_
          refine G_iload_n hO dX5_image_85 rfl rfl ?_
          refine G_iaload hO dX5_image_86 (ShM.c4 hC) c15 ?_
          obtain ⟨c19, h⟩ := h
          refine G_iastore hO dX5_image_87 (ShM.c16 hC) c19 ?_
          refine GG.nmw (fun w20 e21 => ?_)
          have h := h w20 e21
          refine G_iinc (v := (l1 + 1)) (lv2 := [some (.ref (gad Γ 0)), some (.int (l1 + 1))]) hO dX5_image_88 rfl rfl (by decide) rfl rfl ?_
          refine G_goto (tgt := 57) hO dX5_image_91 (by decide) ?_
          exact GG.sub (lv2 := [some (.ref (gad Γ 0)), some (.int (l1 + 1))]) ⟨rfl, ⟨rfl, trivial⟩⟩ h)
  refine G_aload_n hO dX5_image_0 rfl rfl ?_
  refine G_iconst (v := 1) hO dX5_image_1 rfl ?_
  refine pi_X5_303 hO dX5_image_2 (ShM.c0 hC) rfl (Or.inr rfl) ?_
  refine GG.nmw (fun w1 e2 => ?_)
  have h := h w1 e2
  refine G_aload_n hO dX5_image_5 rfl rfl ?_
  refine G_aload_n hO dX5_image_6 rfl rfl ?_
  refine gi_X5_79 hO dX5_image_7 (ShM.c0 hC) rfl ?_
  refine pi_X5_306 hO dX5_image_10 (ShM.c0 hC) rfl ?_
  refine GG.nmw (fun w3 e4 => ?_)
  have h := h w3 e4
  refine G_aload_n hO dX5_image_13 rfl rfl ?_
  refine G_aload_n hO dX5_image_14 rfl rfl ?_
  refine gi_X5_93 hO dX5_image_15 (ShM.c0 hC) rfl ?_
  refine pi_X5_309 hO dX5_image_18 (ShM.c0 hC) rfl ?_
  refine GG.nmw (fun w5 e6 => ?_)
  have h := h w5 e6
  refine G_aload_n hO dX5_image_21 rfl rfl ?_
  refine GG.atpc (pc2 := 22) rfl ?_
  refine G_aload_n hO dX5_image_22 rfl rfl ?_
  refine gi_X5_214 hO dX5_image_23 (ShM.c0 hC) rfl ?_
  refine pi_X5_312 hO dX5_image_26 (ShM.c0 hC) rfl ?_
  refine GG.nmw (fun w7 e8 => ?_)
  have h := h w7 e8
  refine G_iconst (v := 0) hO dX5_image_29 rfl ?_
  refine G_istore_n (lv2 := [some (.ref (gad Γ 0)), some (.int (0 : Int32))]) hO dX5_image_30 rfl (by decide) rfl rfl ?_
  exact GG.sub (lv2 := [some (.ref (gad Γ 0)), some (.int (0 : Int32))]) ⟨rfl, ⟨rfl, trivial⟩⟩ h
def wp_X5_back (Γ : Gx) (d : Nat)  (w : Wd) (Q : Int32 → Wd → Prop) : Prop :=
  ∀ (P_36 : Int32 → Wd → Prop),
  ∀ (P_62 : Int32 → Wd → Prop),
  (∀ (l1 : Int32) (w : Wd), (((8 : Int32) ≤ l1 → P_62 (0 : Int32) w) ∧ (¬ (8 : Int32) ≤ l1 → (vp_in l1 8 ∧ (isZ (w 15 (l1).toNatClampNeg) ∧ (∀ w11 : Wd, w11 = wset w 1 (l1).toNatClampNeg (w 15 (l1).toNatClampNeg) → P_36 (l1 + 1) w11))))) → P_36 l1 w) →
  (∀ (l1 : Int32) (w : Wd), (((5 : Int32) ≤ l1 → Q (w 0 2) w) ∧ (¬ (5 : Int32) ≤ l1 → (vp_in l1 10 ∧ (vp_in l1 5 ∧ (∀ w16 : Wd, w16 = wset w 3 (l1).toNatClampNeg (w 16 (l1).toNatClampNeg) → (vp_in ((5 : Int32) + l1) 10 ∧ (∀ w19 : Wd, w19 = wset w16 4 (l1).toNatClampNeg (w16 16 (((5 : Int32) + l1)).toNatClampNeg) → P_62 (l1 + 1) w19))))))) → P_62 l1 w) →
  ((¬ (w 0 32) = 0 → (∀ w2 : Wd, w2 = wset w 0 2 (w 0 33) → (∀ w4 : Wd, w4 = wset w2 0 0 (w2 0 34) → (∀ w6 : Wd, w6 = wset w4 0 6 (w4 0 35) → P_36 (0 : Int32) w6)))) ∧ ((w 0 32) = 0 → Q (-3 : Int32) w))
set_option maxRecDepth 20000 in
theorem con_X5_back {Γ : Gx} {d : Nat} (hG : GM Γ)   {w : Wd} {Q : Int32 → Wd → Prop} (h : wp_X5_back Γ d  w Q) : CI Γ (d + 1) M_X5_back [.ref (gad Γ 0)] w Q := by
  have hC := hG.2
  refine Con.of RX5 cX5_back 2 (some .int) [some (.ref (gad Γ 0)), none] rfl rfl (by decide +kernel) hG.1 (catR cat0) (Nat.le_of_ble_eq_true rfl) rfl ?_
  intro X hO
  have h := h
    (fun (l1 : Int32) (w : Wd) => GG Γ X (d + 1) 2 (QI Q) 36 [some (.ref (gad Γ 0)), some (.int l1)] [] w)
    (fun (l1 : Int32) (w : Wd) => GG Γ X (d + 1) 2 (QI Q) 62 [some (.ref (gad Γ 0)), some (.int l1)] [] w)
    (by
        intro l1 w h
        refine G_iload_n hO dX5_back_36 rfl rfl ?_
        refine G_bipush (v := 8) hO dX5_back_37 rfl ?_
        refine G_icmp_ge (tgt := 60) hO dX5_back_39 (by decide) (fun c8 => ?_) (fun c8 => ?_)
        · have h := h.1 c8
          refine G_iconst (v := 0) hO dX5_back_60 rfl ?_
          refine G_istore_n (lv2 := [some (.ref (gad Γ 0)), some (.int (0 : Int32))]) hO dX5_back_61 rfl (by decide) rfl rfl ?_
          exact GG.sub (lv2 := [some (.ref (gad Γ 0)), some (.int (0 : Int32))]) ⟨rfl, ⟨rfl, trivial⟩⟩ h
        · have h := h.2 c8
          refine G_aload_n hO dX5_back_42 rfl rfl ?_
          refine gr_X5_7 (c := 1) hO dX5_back_43 (ShM.c0 hC) rfl ?_
          refine G_iload_n hO dX5_back_46 rfl rfl ?_
          refine G_aload_n hO dX5_back_47 rfl rfl ?_
          refine gr_X5_53 (c := 15) hO dX5_back_48 (ShM.c0 hC) rfl ?_
          refine G_iload_n hO dX5_back_51 rfl rfl ?_
          obtain ⟨c9, h⟩ := h
          refine G_baload hO dX5_back_52 (ShM.c15 hC) c9 ?_
          obtain ⟨c10, h⟩ := h
          refine G_bastore hO dX5_back_53 (ShM.c1 hC) c9 c10.and ?_
          refine GG.nmw (fun w11 e12 => ?_)
          have h := h w11 e12
          refine G_iinc (v := (l1 + 1)) (lv2 := [some (.ref (gad Γ 0)), some (.int (l1 + 1))]) hO dX5_back_54 rfl rfl (by decide) rfl rfl ?_
          refine G_goto (tgt := 36) hO dX5_back_57 (by decide) ?_
          exact GG.sub (lv2 := [some (.ref (gad Γ 0)), some (.int (l1 + 1))]) ⟨rfl, ⟨rfl, trivial⟩⟩ h)
    (by
        intro l1 w h
        refine G_iload_n hO dX5_back_62 rfl rfl ?_
        refine G_iconst (v := 5) hO dX5_back_63 rfl ?_
        refine G_icmp_ge (tgt := 99) hO dX5_back_64 (by decide) (fun c13 => ?_) (fun c13 => ?_)
        · have h := h.1 c13
          refine G_aload_n hO dX5_back_99 rfl rfl ?_
          refine gi_X5_79 hO dX5_back_100 (ShM.c0 hC) rfl ?_
          exact G_iret hO dX5_back_103 rfl rfl (QI.i h)
        · have h := h.2 c13
          refine G_aload_n hO dX5_back_67 rfl rfl ?_
          refine gr_X5_17 (c := 3) hO dX5_back_68 (ShM.c0 hC) rfl ?_
          refine G_iload_n hO dX5_back_71 rfl rfl ?_
          refine G_aload_n hO dX5_back_72 rfl rfl ?_
          refine gr_X5_56 (c := 16) hO dX5_back_73 (ShM.c0 hC) rfl ?_
          refine G_iload_n hO dX5_back_76 rfl rfl ?_
          obtain ⟨c14, h⟩ := h
          refine G_iaload hO dX5_back_77 (ShM.c16 hC) c14 ?_
          obtain ⟨c15, h⟩ := h
          refine G_iastore hO dX5_back_78 (ShM.c3 hC) c15 ?_
          refine GG.nmw (fun w16 e17 => ?_)
          have h := h w16 e17
          refine G_aload_n hO dX5_back_79 rfl rfl ?_
          refine gr_X5_20 (c := 4) hO dX5_back_80 (ShM.c0 hC) rfl ?_
          refine G_iload_n hO dX5_back_83 rfl rfl ?_
          refine G_aload_n hO dX5_back_84 rfl rfl ?_
          refine GG.atpc (pc2 := 85) rfl ?_
          refine gr_X5_56 (c := 16) hO dX5_back_85 (ShM.c0 hC) rfl ?_
          refine G_iconst (v := 5) hO dX5_back_88 rfl ?_
          refine G_iload_n hO dX5_back_89 rfl rfl ?_
          refine G_iadd hO dX5_back_90 ?_
          obtain ⟨c18, h⟩ := h
          refine G_iaload hO dX5_back_91 (ShM.c16 hC) c18 ?_
          refine G_iastore hO dX5_back_92 (ShM.c4 hC) c15 ?_
          refine GG.nmw (fun w19 e20 => ?_)
          have h := h w19 e20
          refine G_iinc (v := (l1 + 1)) (lv2 := [some (.ref (gad Γ 0)), some (.int (l1 + 1))]) hO dX5_back_93 rfl rfl (by decide) rfl rfl ?_
          refine G_goto (tgt := 62) hO dX5_back_96 (by decide) ?_
          exact GG.sub (lv2 := [some (.ref (gad Γ 0)), some (.int (l1 + 1))]) ⟨rfl, ⟨rfl, trivial⟩⟩ h)
  refine G_aload_n hO dX5_back_0 rfl rfl ?_
  refine gi_X5_303 hO dX5_back_1 (ShM.c0 hC) rfl ?_
  refine G_if_ne (tgt := 10) hO dX5_back_4 (by decide) (fun c1 => ?_) (fun c1 => ?_)
  · have h := h.1 c1
    refine G_aload_n hO dX5_back_10 rfl rfl ?_
    refine G_aload_n hO dX5_back_11 rfl rfl ?_
    refine gi_X5_306 hO dX5_back_12 (ShM.c0 hC) rfl ?_
    refine pi_X5_79 hO dX5_back_15 (ShM.c0 hC) rfl ?_
    refine GG.nmw (fun w2 e3 => ?_)
    have h := h w2 e3
    refine G_aload_n hO dX5_back_18 rfl rfl ?_
    refine G_aload_n hO dX5_back_19 rfl rfl ?_
    refine gi_X5_309 hO dX5_back_20 (ShM.c0 hC) rfl ?_
    refine pi_X5_93 hO dX5_back_23 (ShM.c0 hC) rfl ?_
    refine GG.nmw (fun w4 e5 => ?_)
    have h := h w4 e5
    refine G_aload_n hO dX5_back_26 rfl rfl ?_
    refine G_aload_n hO dX5_back_27 rfl rfl ?_
    refine gi_X5_312 hO dX5_back_28 (ShM.c0 hC) rfl ?_
    refine pi_X5_214 hO dX5_back_31 (ShM.c0 hC) rfl ?_
    refine GG.nmw (fun w6 e7 => ?_)
    have h := h w6 e7
    refine GG.atpc (pc2 := 34) rfl ?_
    refine G_iconst (v := 0) hO dX5_back_34 rfl ?_
    refine G_istore_n (lv2 := [some (.ref (gad Γ 0)), some (.int (0 : Int32))]) hO dX5_back_35 rfl (by decide) rfl rfl ?_
    exact GG.sub (lv2 := [some (.ref (gad Γ 0)), some (.int (0 : Int32))]) ⟨rfl, ⟨rfl, trivial⟩⟩ h
  · have h := h.2 c1
    refine G_bipush (v := -3) hO dX5_back_7 rfl ?_
    exact G_iret hO dX5_back_9 rfl rfl (QI.i h)
def wp_X5_count (Γ : Gx) (d : Nat) (p1 : Int32) (w : Wd) (Q : Int32 → Wd → Prop) : Prop :=
  ∀ (P_47 : Int32 → Int32 → Wd → Prop),
  (∀ (l2 : Int32) (l3 : Int32) (w : Wd), (((8 : Int32) ≤ l3 → Q l2 w) ∧ (¬ (8 : Int32) ≤ l3 → (vp_in l3 8 ∧ (((w 1 (l3).toNatClampNeg) = 0 → P_47 l2 (l3 + 1) w) ∧ (¬ (w 1 (l3).toNatClampNeg) = 0 → P_47 (l2 + 1) (l3 + 1) w))))) → P_47 l2 l3 w) →
  (((p1 = (0 : Int32)) → Q (w 0 2) w) ∧ ((p1 = (1 : Int32)) → P_47 (0 : Int32) (0 : Int32) w) ∧ ((p1 = (2 : Int32)) → Q (w 0 0) w) ∧ ((p1 = (3 : Int32)) → Q (w 0 9) w) ∧ ((p1 = (4 : Int32)) → Q (w 0 7) w) ∧ ((p1 = (5 : Int32)) → Q (w 0 6) w) ∧ ((¬ p1 = (0 : Int32) ∧ ¬ p1 = (1 : Int32) ∧ ¬ p1 = (2 : Int32) ∧ ¬ p1 = (3 : Int32) ∧ ¬ p1 = (4 : Int32) ∧ ¬ p1 = (5 : Int32)) → Q (-2 : Int32) w))
set_option maxRecDepth 20000 in
theorem con_X5_count {Γ : Gx} {d : Nat} (hG : GM Γ) {p1 : Int32}  {w : Wd} {Q : Int32 → Wd → Prop} (h : wp_X5_count Γ d p1 w Q) : CI Γ (d + 1) M_X5_count [.ref (gad Γ 0), .int p1] w Q := by
  have hC := hG.2
  refine Con.of RX5 cX5_count 4 (some .int) [some (.ref (gad Γ 0)), some (.int p1), none, none] rfl rfl (by decide +kernel) hG.1 (catR (catI cat0)) (Nat.le_of_ble_eq_true rfl) rfl ?_
  intro X hO
  have h := h
    (fun (l2 : Int32) (l3 : Int32) (w : Wd) => GG Γ X (d + 1) 4 (QI Q) 47 [some (.ref (gad Γ 0)), none, some (.int l2), some (.int l3)] [] w)
    (by
        intro l2 l3 w h
        refine G_iload_n hO dX5_count_47 rfl rfl ?_
        refine G_bipush (v := 8) hO dX5_count_48 rfl ?_
        refine G_icmp_ge (tgt := 71) hO dX5_count_50 (by decide) (fun c1 => ?_) (fun c1 => ?_)
        · have h := h.1 c1
          refine G_iload_n hO dX5_count_71 rfl rfl ?_
          exact G_iret hO dX5_count_72 rfl rfl (QI.i h)
        · have h := h.2 c1
          refine G_aload_n hO dX5_count_53 rfl rfl ?_
          refine gr_X5_7 (c := 1) hO dX5_count_54 (ShM.c0 hC) rfl ?_
          refine G_iload_n hO dX5_count_57 rfl rfl ?_
          obtain ⟨c2, h⟩ := h
          refine G_baload hO dX5_count_58 (ShM.c1 hC) c2 ?_
          refine G_if_eq (tgt := 65) hO dX5_count_59 (by decide) (fun c3 => ?_) (fun c3 => ?_)
          · have h := h.1 c3
            refine G_iinc (v := (l3 + 1)) (lv2 := [some (.ref (gad Γ 0)), none, some (.int l2), some (.int (l3 + 1))]) hO dX5_count_65 rfl rfl (by decide) rfl rfl ?_
            refine G_goto (tgt := 47) hO dX5_count_68 (by decide) ?_
            exact GG.sub (lv2 := [some (.ref (gad Γ 0)), none, some (.int l2), some (.int (l3 + 1))]) ⟨rfl, ⟨rfl, ⟨rfl, trivial⟩⟩⟩ h
          · have h := h.2 c3
            refine G_iinc (v := (l2 + 1)) (lv2 := [some (.ref (gad Γ 0)), none, some (.int (l2 + 1)), some (.int l3)]) hO dX5_count_62 rfl rfl (by decide) rfl rfl ?_
            refine G_iinc (v := (l3 + 1)) (lv2 := [some (.ref (gad Γ 0)), none, some (.int (l2 + 1)), some (.int (l3 + 1))]) hO dX5_count_65 rfl rfl (by decide) rfl rfl ?_
            refine G_goto (tgt := 47) hO dX5_count_68 (by decide) ?_
            exact GG.sub (lv2 := [some (.ref (gad Γ 0)), none, some (.int (l2 + 1)), some (.int (l3 + 1))]) ⟨rfl, ⟨rfl, ⟨rfl, trivial⟩⟩⟩ h)
  refine G_iconst (v := 0) hO dX5_count_0 rfl ?_
  refine G_istore_n (lv2 := [some (.ref (gad Γ 0)), some (.int p1), some (.int (0 : Int32)), none]) hO dX5_count_1 rfl (by decide) rfl rfl ?_
  refine G_iload_n hO dX5_count_2 rfl rfl ?_
  by_cases e0 : p1 = (0 : Int32)
  · have h := h.1 e0
    refine G_tabIn (tgt := 40) (j := 0) hO dX5_count_3 (by decide) rfl (sweq e0 (by decide)) (by decide) ?_
    refine G_aload_n hO dX5_count_40 rfl rfl ?_
    refine gi_X5_79 hO dX5_count_41 (ShM.c0 hC) rfl ?_
    exact G_iret hO dX5_count_44 rfl rfl (QI.i h)
  · by_cases e1 : p1 = (1 : Int32)
    · have h := h.2.1 e1
      refine G_tabIn (tgt := 45) (j := 1) hO dX5_count_3 (by decide) rfl (sweq e1 (by decide)) (by decide) ?_
      refine G_iconst (v := 0) hO dX5_count_45 rfl ?_
      refine G_istore_n (lv2 := [some (.ref (gad Γ 0)), some (.int p1), some (.int (0 : Int32)), some (.int (0 : Int32))]) hO dX5_count_46 rfl (by decide) rfl rfl ?_
      exact GG.sub (lv2 := [some (.ref (gad Γ 0)), none, some (.int (0 : Int32)), some (.int (0 : Int32))]) ⟨rfl, ⟨rfl, ⟨rfl, trivial⟩⟩⟩ h
    · by_cases e2 : p1 = (2 : Int32)
      · have h := h.2.2.1 e2
        refine G_tabIn (tgt := 73) (j := 2) hO dX5_count_3 (by decide) rfl (sweq e2 (by decide)) (by decide) ?_
        refine G_aload_n hO dX5_count_73 rfl rfl ?_
        refine gi_X5_93 hO dX5_count_74 (ShM.c0 hC) rfl ?_
        exact G_iret hO dX5_count_77 rfl rfl (QI.i h)
      · by_cases e3 : p1 = (3 : Int32)
        · have h := h.2.2.2.1 e3
          refine G_tabIn (tgt := 78) (j := 3) hO dX5_count_3 (by decide) rfl (sweq e3 (by decide)) (by decide) ?_
          refine G_aload_n hO dX5_count_78 rfl rfl ?_
          refine gi_X5_76 hO dX5_count_79 (ShM.c0 hC) rfl ?_
          exact G_iret hO dX5_count_82 rfl rfl (QI.i h)
        · by_cases e4 : p1 = (4 : Int32)
          · have h := h.2.2.2.2.1 e4
            refine G_tabIn (tgt := 83) (j := 4) hO dX5_count_3 (by decide) rfl (sweq e4 (by decide)) (by decide) ?_
            refine G_aload_n hO dX5_count_83 rfl rfl ?_
            refine gi_X5_126 hO dX5_count_84 (ShM.c0 hC) rfl ?_
            exact G_iret hO dX5_count_87 rfl rfl (QI.i h)
          · by_cases e5 : p1 = (5 : Int32)
            · have h := h.2.2.2.2.2.1 e5
              refine G_tabIn (tgt := 88) (j := 5) hO dX5_count_3 (by decide) rfl (sweq e5 (by decide)) (by decide) ?_
              refine G_aload_n hO dX5_count_88 rfl rfl ?_
              refine gi_X5_214 hO dX5_count_89 (ShM.c0 hC) rfl ?_
              exact G_iret hO dX5_count_92 rfl rfl (QI.i h)
            · have h := h.2.2.2.2.2.2 ⟨e0, e1, e2, e3, e4, e5⟩
              refine G_tabOut (tgt := 93) hO dX5_count_3 (by decide) (by decide) (fun j hj => ?_) ?_
              · rcases (show j = 0 ∨ j = 1 ∨ j = 2 ∨ j = 3 ∨ j = 4 ∨ j = 5 from by have : j < 6 := hj; omega) with rfl | rfl | rfl | rfl | rfl | rfl
                · exact swne e0 (by decide)
                · exact swne e1 (by decide)
                · exact swne e2 (by decide)
                · exact swne e3 (by decide)
                · exact swne e4 (by decide)
                · exact swne e5 (by decide)
              · refine G_bipush (v := -2) hO dX5_count_93 rfl ?_
                exact G_iret hO dX5_count_95 rfl rfl (QI.i h)
def wp_X5_sheet (Γ : Gx) (d : Nat) (p1 : Int32) (p2 : Int32) (p3 : Int32) (w : Wd) (Q : Int32 → Wd → Prop) : Prop :=
  ∀ (P_43 : Wd → Prop),
  ∀ (P_68 : Int32 → Wd → Prop),
  (∀ (w : Wd), (vp_in p1 4 ∧ (∀ w14 : Wd, w14 = wset w 17 (p1).toNatClampNeg p2 → ((0 ≤ p2 → (∀ w17 : Wd, w17 = wset w14 18 (p1).toNatClampNeg p3 → P_68 (0 : Int32) w17)) ∧ (¬ 0 ≤ p2 → (∀ w19 : Wd, w19 = wset w14 18 (p1).toNatClampNeg (0 : Int32) → P_68 (0 : Int32) w19))))) → P_43 w) →
  (∀ (l4 : Int32) (w : Wd), (((40 : Int32) ≤ l4 → Q (1 : Int32) w) ∧ (¬ (40 : Int32) ≤ l4 → (vp_in (((40 : Int32) * p1) + l4) 160 ∧ (∀ w23 : Wd, w23 = wset w 19 ((((40 : Int32) * p1) + l4)).toNatClampNeg (0 : Int32) → P_68 (l4 + 1) w23)))) → P_68 l4 w) →
  CI Γ d M_X5_isSheet [.int p1] w (fun r1 w2 => ((r1 = 0 → Q (-2 : Int32) w2) ∧ (¬ r1 = 0 → CI Γ d M_X5_within [.int p2, .int (-1 : Int32), .int (2 : Int32)] w2 (fun r4 w5 => ((¬ r4 = 0 → ((p2 < 0 → ((p2 < 0 → P_43 w5) ∧ (¬ p2 < 0 → ((p3 ≤ (40 : Int32) → P_43 w5) ∧ (¬ p3 ≤ (40 : Int32) → Q (-2 : Int32) w5))))) ∧ (¬ p2 < 0 → ((0 ≤ p3 → ((p2 < 0 → P_43 w5) ∧ (¬ p2 < 0 → ((p3 ≤ (40 : Int32) → P_43 w5) ∧ (¬ p3 ≤ (40 : Int32) → Q (-2 : Int32) w5))))) ∧ (¬ 0 ≤ p3 → Q (-14 : Int32) w5))))) ∧ (r4 = 0 → Q (-2 : Int32) w5))))))
set_option maxRecDepth 20000 in
theorem con_X5_sheet {Γ : Gx} {d : Nat} (hG : GM Γ) {p1 : Int32} {p2 : Int32} {p3 : Int32}  {w : Wd} {Q : Int32 → Wd → Prop} (h : wp_X5_sheet Γ d p1 p2 p3 w Q) : CI Γ (d + 1) M_X5_sheet [.ref (gad Γ 0), .int p1, .int p2, .int p3] w Q := by
  have hC := hG.2
  refine Con.of RX5 cX5_sheet 5 (some .int) [some (.ref (gad Γ 0)), some (.int p1), some (.int p2), some (.int p3), none] rfl rfl (by decide +kernel) hG.1 (catR (catI (catI (catI cat0)))) (Nat.le_of_ble_eq_true rfl) rfl ?_
  intro X hO
  have h := h
    (fun (w : Wd) => GG Γ X (d + 1) 5 (QI Q) 43 [some (.ref (gad Γ 0)), some (.int p1), some (.int p2), some (.int p3), none] [] w)
    (fun (l4 : Int32) (w : Wd) => GG Γ X (d + 1) 5 (QI Q) 68 [some (.ref (gad Γ 0)), some (.int p1), none, none, some (.int l4)] [] w)
    (by
        intro w h
        refine G_aload_n hO dX5_sheet_43 rfl rfl ?_
        refine gr_X5_59 (c := 17) hO dX5_sheet_44 (ShM.c0 hC) rfl ?_
        refine G_iload_n hO dX5_sheet_47 rfl rfl ?_
        refine G_iload_n hO dX5_sheet_48 rfl rfl ?_
        obtain ⟨c13, h⟩ := h
        refine G_iastore hO dX5_sheet_49 (ShM.c17 hC) c13 ?_
        refine GG.nmw (fun w14 e15 => ?_)
        have h := h w14 e15
        refine G_aload_n hO dX5_sheet_50 rfl rfl ?_
        refine gr_X5_62 (c := 18) hO dX5_sheet_51 (ShM.c0 hC) rfl ?_
        refine G_iload_n hO dX5_sheet_54 rfl rfl ?_
        refine G_iload_n hO dX5_sheet_55 rfl rfl ?_
        refine G_if_ge (tgt := 63) hO dX5_sheet_56 (by decide) (fun c16 => ?_) (fun c16 => ?_)
        · have h := h.1 c16
          refine G_iload_n hO dX5_sheet_63 rfl rfl ?_
          refine G_iastore hO dX5_sheet_64 (ShM.c18 hC) c13 ?_
          refine GG.nmw (fun w17 e18 => ?_)
          have h := h w17 e18
          refine G_iconst (v := 0) hO dX5_sheet_65 rfl ?_
          refine G_istore (lv2 := [some (.ref (gad Γ 0)), some (.int p1), some (.int p2), some (.int p3), some (.int (0 : Int32))]) hO dX5_sheet_66 (by decide) rfl rfl ?_
          exact GG.sub (lv2 := [some (.ref (gad Γ 0)), some (.int p1), none, none, some (.int (0 : Int32))]) ⟨rfl, ⟨rfl, ⟨rfl, trivial⟩⟩⟩ h
        · have h := h.2 c16
          refine G_iconst (v := 0) hO dX5_sheet_59 rfl ?_
          refine G_goto (tgt := 64) hO dX5_sheet_60 (by decide) ?_
          refine G_iastore hO dX5_sheet_64 (ShM.c18 hC) c13 ?_
          refine GG.nmw (fun w19 e20 => ?_)
          have h := h w19 e20
          refine G_iconst (v := 0) hO dX5_sheet_65 rfl ?_
          refine G_istore (lv2 := [some (.ref (gad Γ 0)), some (.int p1), some (.int p2), some (.int p3), some (.int (0 : Int32))]) hO dX5_sheet_66 (by decide) rfl rfl ?_
          exact GG.sub (lv2 := [some (.ref (gad Γ 0)), some (.int p1), none, none, some (.int (0 : Int32))]) ⟨rfl, ⟨rfl, ⟨rfl, trivial⟩⟩⟩ h)
    (by
        intro l4 w h
        refine G_iload hO dX5_sheet_68 rfl ?_
        refine G_bipush (v := 40) hO dX5_sheet_70 rfl ?_
        refine G_icmp_ge (tgt := 94) hO dX5_sheet_72 (by decide) (fun c21 => ?_) (fun c21 => ?_)
        · have h := h.1 c21
          refine G_iconst (v := 1) hO dX5_sheet_94 rfl ?_
          exact G_iret hO dX5_sheet_95 rfl rfl (QI.i h)
        · have h := h.2 c21
          refine G_aload_n hO dX5_sheet_75 rfl rfl ?_
          refine gr_X5_65 (c := 19) hO dX5_sheet_76 (ShM.c0 hC) rfl ?_
          refine G_bipush (v := 40) hO dX5_sheet_79 rfl ?_
          refine G_iload_n hO dX5_sheet_81 rfl rfl ?_
          refine G_imul hO dX5_sheet_82 ?_
          refine G_iload hO dX5_sheet_83 rfl ?_
          refine G_iadd hO dX5_sheet_85 ?_
          refine G_iconst (v := 0) hO dX5_sheet_86 rfl ?_
          obtain ⟨c22, h⟩ := h
          refine G_iastore hO dX5_sheet_87 (ShM.c19 hC) c22 ?_
          refine GG.nmw (fun w23 e24 => ?_)
          have h := h w23 e24
          refine G_iinc (v := (l4 + 1)) (lv2 := [some (.ref (gad Γ 0)), some (.int p1), none, none, some (.int (l4 + 1))]) hO dX5_sheet_88 rfl rfl (by decide) rfl rfl ?_
          refine G_goto (tgt := 68) hO dX5_sheet_91 (by decide) ?_
          exact GG.sub (lv2 := [some (.ref (gad Γ 0)), some (.int p1), none, none, some (.int (l4 + 1))]) ⟨rfl, ⟨rfl, ⟨rfl, trivial⟩⟩⟩ h)
  refine G_iload_n hO dX5_sheet_0 rfl rfl ?_
  refine G_callSi hO dX5_sheet_1 h cl_X5_279 rfl (Nat.le_of_ble_eq_true rfl) (fun r1 w2 h => ?_) rfl
  refine G_if_eq (tgt := 16) hO dX5_sheet_4 (by decide) (fun c3 => ?_) (fun c3 => ?_)
  · have h := h.1 c3
    refine G_bipush (v := -2) hO dX5_sheet_16 rfl ?_
    exact G_iret hO dX5_sheet_18 rfl rfl (QI.i h)
  · have h := h.2 c3
    refine G_iload_n hO dX5_sheet_7 rfl rfl ?_
    refine G_iconst (v := -1) hO dX5_sheet_8 rfl ?_
    refine G_iconst (v := 2) hO dX5_sheet_9 rfl ?_
    refine G_callSi hO dX5_sheet_10 h cl_X5_82 rfl (Nat.le_of_ble_eq_true rfl) (fun r4 w5 h => ?_) rfl
    refine G_if_ne (tgt := 19) hO dX5_sheet_13 (by decide) (fun c6 => ?_) (fun c6 => ?_)
    · have h := h.1 c6
      refine G_iload_n hO dX5_sheet_19 rfl rfl ?_
      refine G_if_lt (tgt := 30) hO dX5_sheet_20 (by decide) (fun c7 => ?_) (fun c7 => ?_)
      · have h := h.1 c7
        refine G_iload_n hO dX5_sheet_30 rfl rfl ?_
        refine G_if_lt (tgt := 43) hO dX5_sheet_31 (by decide) (fun c8 => ?_) (fun c8 => ?_)
        · have h := h.1 c8
          exact GG.sub (lv2 := [some (.ref (gad Γ 0)), some (.int p1), some (.int p2), some (.int p3), none]) ⟨rfl, ⟨rfl, ⟨rfl, ⟨rfl, trivial⟩⟩⟩⟩ h
        · have h := h.2 c8
          refine G_iload_n hO dX5_sheet_34 rfl rfl ?_
          refine G_bipush (v := 40) hO dX5_sheet_35 rfl ?_
          refine G_icmp_le (tgt := 43) hO dX5_sheet_37 (by decide) (fun c9 => ?_) (fun c9 => ?_)
          · have h := h.1 c9
            exact GG.sub (lv2 := [some (.ref (gad Γ 0)), some (.int p1), some (.int p2), some (.int p3), none]) ⟨rfl, ⟨rfl, ⟨rfl, ⟨rfl, trivial⟩⟩⟩⟩ h
          · have h := h.2 c9
            refine G_bipush (v := -2) hO dX5_sheet_40 rfl ?_
            exact G_iret hO dX5_sheet_42 rfl rfl (QI.i h)
      · have h := h.2 c7
        refine G_iload_n hO dX5_sheet_23 rfl rfl ?_
        refine G_if_ge (tgt := 30) hO dX5_sheet_24 (by decide) (fun c10 => ?_) (fun c10 => ?_)
        · have h := h.1 c10
          refine G_iload_n hO dX5_sheet_30 rfl rfl ?_
          refine G_if_lt (tgt := 43) hO dX5_sheet_31 (by decide) (fun c11 => ?_) (fun c11 => ?_)
          · have h := h.1 c11
            exact GG.sub (lv2 := [some (.ref (gad Γ 0)), some (.int p1), some (.int p2), some (.int p3), none]) ⟨rfl, ⟨rfl, ⟨rfl, ⟨rfl, trivial⟩⟩⟩⟩ h
          · have h := h.2 c11
            refine G_iload_n hO dX5_sheet_34 rfl rfl ?_
            refine G_bipush (v := 40) hO dX5_sheet_35 rfl ?_
            refine G_icmp_le (tgt := 43) hO dX5_sheet_37 (by decide) (fun c12 => ?_) (fun c12 => ?_)
            · have h := h.1 c12
              exact GG.sub (lv2 := [some (.ref (gad Γ 0)), some (.int p1), some (.int p2), some (.int p3), none]) ⟨rfl, ⟨rfl, ⟨rfl, ⟨rfl, trivial⟩⟩⟩⟩ h
            · have h := h.2 c12
              refine G_bipush (v := -2) hO dX5_sheet_40 rfl ?_
              exact G_iret hO dX5_sheet_42 rfl rfl (QI.i h)
        · have h := h.2 c10
          refine G_bipush (v := -14) hO dX5_sheet_27 rfl ?_
          exact G_iret hO dX5_sheet_29 rfl rfl (QI.i h)
    · have h := h.2 c6
      refine G_bipush (v := -2) hO dX5_sheet_16 rfl ?_
      exact G_iret hO dX5_sheet_18 rfl rfl (QI.i h)
def wp_X5_cell (Γ : Gx) (d : Nat) (p1 : Int32) (p2 : Int32) (p3 : Int32) (w : Wd) (Q : Int32 → Wd → Prop) : Prop :=
  CI Γ d M_X5_isSheet [.int p1] w (fun r1 w2 => ((¬ r1 = 0 → (vp_in p1 4 ∧ ((0 ≤ (w2 17 (p1).toNatClampNeg) → CI Γ d M_X5_within [.int p2, .int (0 : Int32), .int ((w2 18 (p1).toNatClampNeg) - (1 : Int32))] w2 (fun r6 w7 => ((¬ r6 = 0 → ((¬ (w7 17 (p1).toNatClampNeg) = 0 → ((¬ (w7 17 (p1).toNatClampNeg) = (1 : Int32) → (vp_in (((40 : Int32) * p1) + p2) 160 ∧ (∀ w12 : Wd, w12 = wset w7 19 ((((40 : Int32) * p1) + p2)).toNatClampNeg p3 → Q (1 : Int32) w12))) ∧ ((w7 17 (p1).toNatClampNeg) = (1 : Int32) → (vp_in (((40 : Int32) * p1) + p2) 160 ∧ (∀ w15 : Wd, w15 = wset w7 19 ((((40 : Int32) * p1) + p2)).toNatClampNeg (p3.toInt16.toInt32) → Q (1 : Int32) w15))))) ∧ ((w7 17 (p1).toNatClampNeg) = 0 → (vp_in (((40 : Int32) * p1) + p2) 160 ∧ (∀ w18 : Wd, w18 = wset w7 19 ((((40 : Int32) * p1) + p2)).toNatClampNeg (p3.toInt8.toInt32) → Q (1 : Int32) w18))))) ∧ (r6 = 0 → Q (-12 : Int32) w7)))) ∧ (¬ 0 ≤ (w2 17 (p1).toNatClampNeg) → Q (-11 : Int32) w2)))) ∧ (r1 = 0 → Q (-2 : Int32) w2)))
set_option maxRecDepth 20000 in
theorem con_X5_cell {Γ : Gx} {d : Nat} (hG : GM Γ) {p1 : Int32} {p2 : Int32} {p3 : Int32}  {w : Wd} {Q : Int32 → Wd → Prop} (h : wp_X5_cell Γ d p1 p2 p3 w Q) : CI Γ (d + 1) M_X5_cell [.ref (gad Γ 0), .int p1, .int p2, .int p3] w Q := by
  have hC := hG.2
  refine Con.of RX5 cX5_cell 4 (some .int) [some (.ref (gad Γ 0)), some (.int p1), some (.int p2), some (.int p3)] rfl rfl (by decide +kernel) hG.1 (catR (catI (catI (catI cat0)))) (Nat.le_of_ble_eq_true rfl) rfl ?_
  intro X hO
  refine G_iload_n hO dX5_cell_0 rfl rfl ?_
  refine G_callSi hO dX5_cell_1 h cl_X5_279 rfl (Nat.le_of_ble_eq_true rfl) (fun r1 w2 h => ?_) rfl
  refine G_if_ne (tgt := 10) hO dX5_cell_4 (by decide) (fun c3 => ?_) (fun c3 => ?_)
  · have h := h.1 c3
    refine G_aload_n hO dX5_cell_10 rfl rfl ?_
    refine gr_X5_59 (c := 17) hO dX5_cell_11 (ShM.c0 hC) rfl ?_
    refine G_iload_n hO dX5_cell_14 rfl rfl ?_
    obtain ⟨c4, h⟩ := h
    refine G_iaload hO dX5_cell_15 (ShM.c17 hC) c4 ?_
    refine G_if_ge (tgt := 22) hO dX5_cell_16 (by decide) (fun c5 => ?_) (fun c5 => ?_)
    · have h := h.1 c5
      refine G_iload_n hO dX5_cell_22 rfl rfl ?_
      refine G_iconst (v := 0) hO dX5_cell_23 rfl ?_
      refine G_aload_n hO dX5_cell_24 rfl rfl ?_
      refine gr_X5_62 (c := 18) hO dX5_cell_25 (ShM.c0 hC) rfl ?_
      refine G_iload_n hO dX5_cell_28 rfl rfl ?_
      refine G_iaload hO dX5_cell_29 (ShM.c18 hC) c4 ?_
      refine G_iconst (v := 1) hO dX5_cell_30 rfl ?_
      refine G_isub hO dX5_cell_31 ?_
      refine G_callSi hO dX5_cell_32 h cl_X5_82 rfl (Nat.le_of_ble_eq_true rfl) (fun r6 w7 h => ?_) rfl
      refine G_if_ne (tgt := 41) hO dX5_cell_35 (by decide) (fun c8 => ?_) (fun c8 => ?_)
      · have h := h.1 c8
        refine G_aload_n hO dX5_cell_41 rfl rfl ?_
        refine gr_X5_65 (c := 19) hO dX5_cell_42 (ShM.c0 hC) rfl ?_
        refine G_bipush (v := 40) hO dX5_cell_45 rfl ?_
        refine G_iload_n hO dX5_cell_47 rfl rfl ?_
        refine G_imul hO dX5_cell_48 ?_
        refine G_iload_n hO dX5_cell_49 rfl rfl ?_
        refine G_iadd hO dX5_cell_50 ?_
        refine G_aload_n hO dX5_cell_51 rfl rfl ?_
        refine gr_X5_59 (c := 17) hO dX5_cell_52 (ShM.c0 hC) rfl ?_
        refine G_iload_n hO dX5_cell_55 rfl rfl ?_
        refine G_iaload hO dX5_cell_56 (ShM.c17 hC) c4 ?_
        refine G_if_ne (tgt := 65) hO dX5_cell_57 (by decide) (fun c9 => ?_) (fun c9 => ?_)
        · have h := h.1 c9
          refine G_aload_n hO dX5_cell_65 rfl rfl ?_
          refine gr_X5_59 (c := 17) hO dX5_cell_66 (ShM.c0 hC) rfl ?_
          refine G_iload_n hO dX5_cell_69 rfl rfl ?_
          refine G_iaload hO dX5_cell_70 (ShM.c17 hC) c4 ?_
          refine G_iconst (v := 1) hO dX5_cell_71 rfl ?_
          refine G_icmp_ne (tgt := 80) hO dX5_cell_72 (by decide) (fun c10 => ?_) (fun c10 => ?_)
          · have h := h.1 c10
            refine G_iload_n hO dX5_cell_80 rfl rfl ?_
            obtain ⟨c11, h⟩ := h
            refine G_iastore hO dX5_cell_81 (ShM.c19 hC) c11 ?_
            refine GG.nmw (fun w12 e13 => ?_)
            have h := h w12 e13
            refine G_iconst (v := 1) hO dX5_cell_82 rfl ?_
            exact G_iret hO dX5_cell_83 rfl rfl (QI.i h)
          · have h := h.2 c10
            refine G_iload_n hO dX5_cell_75 rfl rfl ?_
            refine G_i2s hO dX5_cell_76 ?_
            refine G_goto (tgt := 81) hO dX5_cell_77 (by decide) ?_
            obtain ⟨c14, h⟩ := h
            refine G_iastore hO dX5_cell_81 (ShM.c19 hC) c14 ?_
            refine GG.nmw (fun w15 e16 => ?_)
            have h := h w15 e16
            refine G_iconst (v := 1) hO dX5_cell_82 rfl ?_
            exact G_iret hO dX5_cell_83 rfl rfl (QI.i h)
        · have h := h.2 c9
          refine G_iload_n hO dX5_cell_60 rfl rfl ?_
          refine G_i2b hO dX5_cell_61 ?_
          refine G_goto (tgt := 81) hO dX5_cell_62 (by decide) ?_
          obtain ⟨c17, h⟩ := h
          refine G_iastore hO dX5_cell_81 (ShM.c19 hC) c17 ?_
          refine GG.nmw (fun w18 e19 => ?_)
          have h := h w18 e19
          refine G_iconst (v := 1) hO dX5_cell_82 rfl ?_
          exact G_iret hO dX5_cell_83 rfl rfl (QI.i h)
      · have h := h.2 c8
        refine G_bipush (v := -12) hO dX5_cell_38 rfl ?_
        exact G_iret hO dX5_cell_40 rfl rfl (QI.i h)
    · have h := h.2 c5
      refine G_bipush (v := -11) hO dX5_cell_19 rfl ?_
      exact G_iret hO dX5_cell_21 rfl rfl (QI.i h)
  · have h := h.2 c3
    refine G_bipush (v := -2) hO dX5_cell_7 rfl ?_
    exact G_iret hO dX5_cell_9 rfl rfl (QI.i h)
def wp_X5_copy (Γ : Gx) (d : Nat) (p1 : Int32) (p2 : Int32) (p3 : Int32) (p4 : Int32) (p5 : Int32) (w : Wd) (Q : Int32 → Wd → Prop) : Prop :=
  ∀ (P_125 : Int32 → Wd → Prop),
  ∀ (P_171 : Int32 → Wd → Prop),
  (∀ (l6 : Int32) (w : Wd), ((l6 < 0 → Q p5 w) ∧ (¬ l6 < 0 → (vp_in ((((40 : Int32) * p1) + p2) + l6) 160 ∧ (vp_in ((((40 : Int32) * p3) + p4) + l6) 160 ∧ (∀ w22 : Wd, w22 = wset w 19 (((((40 : Int32) * p3) + p4) + l6)).toNatClampNeg (w 19 (((((40 : Int32) * p1) + p2) + l6)).toNatClampNeg) → P_125 (l6 + (-1)) w22))))) → P_125 l6 w) →
  (∀ (l6 : Int32) (w : Wd), ((p5 ≤ l6 → Q p5 w) ∧ (¬ p5 ≤ l6 → (vp_in ((((40 : Int32) * p1) + p2) + l6) 160 ∧ (vp_in ((((40 : Int32) * p3) + p4) + l6) 160 ∧ (∀ w27 : Wd, w27 = wset w 19 (((((40 : Int32) * p3) + p4) + l6)).toNatClampNeg (w 19 (((((40 : Int32) * p1) + p2) + l6)).toNatClampNeg) → P_171 (l6 + 1) w27))))) → P_171 l6 w) →
  CI Γ d M_X5_isSheet [.int p1] w (fun r1 w2 => ((r1 = 0 → Q (-2 : Int32) w2) ∧ (¬ r1 = 0 → CI Γ d M_X5_isSheet [.int p3] w2 (fun r4 w5 => ((¬ r4 = 0 → (vp_in p1 4 ∧ (((w5 17 (p1).toNatClampNeg) < 0 → Q (-11 : Int32) w5) ∧ (¬ (w5 17 (p1).toNatClampNeg) < 0 → (vp_in p3 4 ∧ ((0 ≤ (w5 17 (p3).toNatClampNeg) → (((w5 17 (p1).toNatClampNeg) = (w5 17 (p3).toNatClampNeg) → ((p5 < 0 → Q (-12 : Int32) w5) ∧ (¬ p5 < 0 → ((p2 < 0 → Q (-12 : Int32) w5) ∧ (¬ p2 < 0 → ((p4 < 0 → Q (-12 : Int32) w5) ∧ (¬ p4 < 0 → ((0 < (lg_cmp ((p2.toInt64) + (p5.toInt64)) ((w5 18 (p1).toNatClampNeg).toInt64)) → Q (-12 : Int32) w5) ∧ (¬ 0 < (lg_cmp ((p2.toInt64) + (p5.toInt64)) ((w5 18 (p1).toNatClampNeg).toInt64)) → (((lg_cmp ((p4.toInt64) + (p5.toInt64)) ((w5 18 (p3).toNatClampNeg).toInt64)) ≤ 0 → ((¬ p1 = p3 → P_171 (0 : Int32) w5) ∧ (p1 = p3 → ((p4 ≤ p2 → P_171 (0 : Int32) w5) ∧ (¬ p4 ≤ p2 → P_125 (p5 - (1 : Int32)) w5))))) ∧ (¬ (lg_cmp ((p4.toInt64) + (p5.toInt64)) ((w5 18 (p3).toNatClampNeg).toInt64)) ≤ 0 → Q (-12 : Int32) w5))))))))))) ∧ (¬ (w5 17 (p1).toNatClampNeg) = (w5 17 (p3).toNatClampNeg) → Q (-13 : Int32) w5))) ∧ (¬ 0 ≤ (w5 17 (p3).toNatClampNeg) → Q (-11 : Int32) w5))))))) ∧ (r4 = 0 → Q (-2 : Int32) w5))))))
set_option maxRecDepth 20000 in
theorem con_X5_copy {Γ : Gx} {d : Nat} (hG : GM Γ) {p1 : Int32} {p2 : Int32} {p3 : Int32} {p4 : Int32} {p5 : Int32}  {w : Wd} {Q : Int32 → Wd → Prop} (h : wp_X5_copy Γ d p1 p2 p3 p4 p5 w Q) : CI Γ (d + 1) M_X5_copy [.ref (gad Γ 0), .int p1, .int p2, .int p3, .int p4, .int p5] w Q := by
  have hC := hG.2
  refine Con.of RX5 cX5_copy 7 (some .int) [some (.ref (gad Γ 0)), some (.int p1), some (.int p2), some (.int p3), some (.int p4), some (.int p5), none] rfl rfl (by decide +kernel) hG.1 (catR (catI (catI (catI (catI (catI cat0)))))) (Nat.le_of_ble_eq_true rfl) rfl ?_
  intro X hO
  have h := h
    (fun (l6 : Int32) (w : Wd) => GG Γ X (d + 1) 7 (QI Q) 125 [some (.ref (gad Γ 0)), some (.int p1), some (.int p2), some (.int p3), some (.int p4), some (.int p5), some (.int l6)] [] w)
    (fun (l6 : Int32) (w : Wd) => GG Γ X (d + 1) 7 (QI Q) 171 [some (.ref (gad Γ 0)), some (.int p1), some (.int p2), some (.int p3), some (.int p4), some (.int p5), some (.int l6)] [] w)
    (by
        intro l6 w h
        refine G_iload hO dX5_copy_125 rfl ?_
        refine G_if_lt (tgt := 165) hO dX5_copy_127 (by decide) (fun c19 => ?_) (fun c19 => ?_)
        · have h := h.1 c19
          refine G_goto (tgt := 213) hO dX5_copy_165 (by decide) ?_
          refine G_iload hO dX5_copy_213 rfl ?_
          exact G_iret hO dX5_copy_215 rfl rfl (QI.i h)
        · have h := h.2 c19
          refine G_aload_n hO dX5_copy_130 rfl rfl ?_
          refine gr_X5_65 (c := 19) hO dX5_copy_131 (ShM.c0 hC) rfl ?_
          refine G_bipush (v := 40) hO dX5_copy_134 rfl ?_
          refine G_iload_n hO dX5_copy_136 rfl rfl ?_
          refine G_imul hO dX5_copy_137 ?_
          refine G_iload hO dX5_copy_138 rfl ?_
          refine G_iadd hO dX5_copy_140 ?_
          refine G_iload hO dX5_copy_141 rfl ?_
          refine G_iadd hO dX5_copy_143 ?_
          refine G_aload_n hO dX5_copy_144 rfl rfl ?_
          refine gr_X5_65 (c := 19) hO dX5_copy_145 (ShM.c0 hC) rfl ?_
          refine G_bipush (v := 40) hO dX5_copy_148 rfl ?_
          refine GG.atpc (pc2 := 150) rfl ?_
          refine G_iload_n hO dX5_copy_150 rfl rfl ?_
          refine G_imul hO dX5_copy_151 ?_
          refine G_iload_n hO dX5_copy_152 rfl rfl ?_
          refine G_iadd hO dX5_copy_153 ?_
          refine G_iload hO dX5_copy_154 rfl ?_
          refine G_iadd hO dX5_copy_156 ?_
          obtain ⟨c20, h⟩ := h
          refine G_iaload hO dX5_copy_157 (ShM.c19 hC) c20 ?_
          obtain ⟨c21, h⟩ := h
          refine G_iastore hO dX5_copy_158 (ShM.c19 hC) c21 ?_
          refine GG.nmw (fun w22 e23 => ?_)
          have h := h w22 e23
          refine G_iinc (v := (l6 + (-1))) (lv2 := [some (.ref (gad Γ 0)), some (.int p1), some (.int p2), some (.int p3), some (.int p4), some (.int p5), some (.int (l6 + (-1)))]) hO dX5_copy_159 rfl rfl (by decide) rfl rfl ?_
          refine G_goto (tgt := 125) hO dX5_copy_162 (by decide) ?_
          exact GG.sub (lv2 := [some (.ref (gad Γ 0)), some (.int p1), some (.int p2), some (.int p3), some (.int p4), some (.int p5), some (.int (l6 + (-1)))]) ⟨rfl, ⟨rfl, ⟨rfl, ⟨rfl, ⟨rfl, ⟨rfl, ⟨rfl, trivial⟩⟩⟩⟩⟩⟩⟩ h)
    (by
        intro l6 w h
        refine G_iload hO dX5_copy_171 rfl ?_
        refine G_iload hO dX5_copy_173 rfl ?_
        refine G_icmp_ge (tgt := 213) hO dX5_copy_175 (by decide) (fun c24 => ?_) (fun c24 => ?_)
        · have h := h.1 c24
          refine G_iload hO dX5_copy_213 rfl ?_
          exact G_iret hO dX5_copy_215 rfl rfl (QI.i h)
        · have h := h.2 c24
          refine G_aload_n hO dX5_copy_178 rfl rfl ?_
          refine gr_X5_65 (c := 19) hO dX5_copy_179 (ShM.c0 hC) rfl ?_
          refine G_bipush (v := 40) hO dX5_copy_182 rfl ?_
          refine G_iload_n hO dX5_copy_184 rfl rfl ?_
          refine G_imul hO dX5_copy_185 ?_
          refine G_iload hO dX5_copy_186 rfl ?_
          refine G_iadd hO dX5_copy_188 ?_
          refine G_iload hO dX5_copy_189 rfl ?_
          refine G_iadd hO dX5_copy_191 ?_
          refine G_aload_n hO dX5_copy_192 rfl rfl ?_
          refine gr_X5_65 (c := 19) hO dX5_copy_193 (ShM.c0 hC) rfl ?_
          refine G_bipush (v := 40) hO dX5_copy_196 rfl ?_
          refine GG.atpc (pc2 := 198) rfl ?_
          refine G_iload_n hO dX5_copy_198 rfl rfl ?_
          refine G_imul hO dX5_copy_199 ?_
          refine G_iload_n hO dX5_copy_200 rfl rfl ?_
          refine G_iadd hO dX5_copy_201 ?_
          refine G_iload hO dX5_copy_202 rfl ?_
          refine G_iadd hO dX5_copy_204 ?_
          obtain ⟨c25, h⟩ := h
          refine G_iaload hO dX5_copy_205 (ShM.c19 hC) c25 ?_
          obtain ⟨c26, h⟩ := h
          refine G_iastore hO dX5_copy_206 (ShM.c19 hC) c26 ?_
          refine GG.nmw (fun w27 e28 => ?_)
          have h := h w27 e28
          refine G_iinc (v := (l6 + 1)) (lv2 := [some (.ref (gad Γ 0)), some (.int p1), some (.int p2), some (.int p3), some (.int p4), some (.int p5), some (.int (l6 + 1))]) hO dX5_copy_207 rfl rfl (by decide) rfl rfl ?_
          refine G_goto (tgt := 171) hO dX5_copy_210 (by decide) ?_
          exact GG.sub (lv2 := [some (.ref (gad Γ 0)), some (.int p1), some (.int p2), some (.int p3), some (.int p4), some (.int p5), some (.int (l6 + 1))]) ⟨rfl, ⟨rfl, ⟨rfl, ⟨rfl, ⟨rfl, ⟨rfl, ⟨rfl, trivial⟩⟩⟩⟩⟩⟩⟩ h)
  refine G_iload_n hO dX5_copy_0 rfl rfl ?_
  refine G_callSi hO dX5_copy_1 h cl_X5_279 rfl (Nat.le_of_ble_eq_true rfl) (fun r1 w2 h => ?_) rfl
  refine G_if_eq (tgt := 14) hO dX5_copy_4 (by decide) (fun c3 => ?_) (fun c3 => ?_)
  · have h := h.1 c3
    refine G_bipush (v := -2) hO dX5_copy_14 rfl ?_
    exact G_iret hO dX5_copy_16 rfl rfl (QI.i h)
  · have h := h.2 c3
    refine G_iload_n hO dX5_copy_7 rfl rfl ?_
    refine G_callSi hO dX5_copy_8 h cl_X5_279 rfl (Nat.le_of_ble_eq_true rfl) (fun r4 w5 h => ?_) rfl
    refine G_if_ne (tgt := 17) hO dX5_copy_11 (by decide) (fun c6 => ?_) (fun c6 => ?_)
    · have h := h.1 c6
      refine G_aload_n hO dX5_copy_17 rfl rfl ?_
      refine gr_X5_59 (c := 17) hO dX5_copy_18 (ShM.c0 hC) rfl ?_
      refine G_iload_n hO dX5_copy_21 rfl rfl ?_
      obtain ⟨c7, h⟩ := h
      refine G_iaload hO dX5_copy_22 (ShM.c17 hC) c7 ?_
      refine G_if_lt (tgt := 35) hO dX5_copy_23 (by decide) (fun c8 => ?_) (fun c8 => ?_)
      · have h := h.1 c8
        refine G_bipush (v := -11) hO dX5_copy_35 rfl ?_
        exact G_iret hO dX5_copy_37 rfl rfl (QI.i h)
      · have h := h.2 c8
        refine G_aload_n hO dX5_copy_26 rfl rfl ?_
        refine gr_X5_59 (c := 17) hO dX5_copy_27 (ShM.c0 hC) rfl ?_
        refine G_iload_n hO dX5_copy_30 rfl rfl ?_
        obtain ⟨c9, h⟩ := h
        refine G_iaload hO dX5_copy_31 (ShM.c17 hC) c9 ?_
        refine G_if_ge (tgt := 38) hO dX5_copy_32 (by decide) (fun c10 => ?_) (fun c10 => ?_)
        · have h := h.1 c10
          refine G_aload_n hO dX5_copy_38 rfl rfl ?_
          refine gr_X5_59 (c := 17) hO dX5_copy_39 (ShM.c0 hC) rfl ?_
          refine G_iload_n hO dX5_copy_42 rfl rfl ?_
          refine G_iaload hO dX5_copy_43 (ShM.c17 hC) c7 ?_
          refine G_aload_n hO dX5_copy_44 rfl rfl ?_
          refine gr_X5_59 (c := 17) hO dX5_copy_45 (ShM.c0 hC) rfl ?_
          refine G_iload_n hO dX5_copy_48 rfl rfl ?_
          refine G_iaload hO dX5_copy_49 (ShM.c17 hC) c9 ?_
          refine G_icmp_eq (tgt := 56) hO dX5_copy_50 (by decide) (fun c11 => ?_) (fun c11 => ?_)
          · have h := h.1 c11
            refine G_iload hO dX5_copy_56 rfl ?_
            refine G_if_lt (tgt := 105) hO dX5_copy_58 (by decide) (fun c12 => ?_) (fun c12 => ?_)
            · have h := h.1 c12
              refine G_bipush (v := -12) hO dX5_copy_105 rfl ?_
              exact G_iret hO dX5_copy_107 rfl rfl (QI.i h)
            · have h := h.2 c12
              refine G_iload_n hO dX5_copy_61 rfl rfl ?_
              refine G_if_lt (tgt := 105) hO dX5_copy_62 (by decide) (fun c13 => ?_) (fun c13 => ?_)
              · have h := h.1 c13
                refine G_bipush (v := -12) hO dX5_copy_105 rfl ?_
                exact G_iret hO dX5_copy_107 rfl rfl (QI.i h)
              · have h := h.2 c13
                refine G_iload hO dX5_copy_65 rfl ?_
                refine G_if_lt (tgt := 105) hO dX5_copy_67 (by decide) (fun c14 => ?_) (fun c14 => ?_)
                · have h := h.1 c14
                  refine G_bipush (v := -12) hO dX5_copy_105 rfl ?_
                  exact G_iret hO dX5_copy_107 rfl rfl (QI.i h)
                · have h := h.2 c14
                  refine G_iload_n hO dX5_copy_70 rfl rfl ?_
                  refine G_i2l hO dX5_copy_71 ?_
                  refine G_iload hO dX5_copy_72 rfl ?_
                  refine G_i2l hO dX5_copy_74 ?_
                  refine G_ladd hO dX5_copy_75 ?_
                  refine G_aload_n hO dX5_copy_76 rfl rfl ?_
                  refine gr_X5_62 (c := 18) hO dX5_copy_77 (ShM.c0 hC) rfl ?_
                  refine G_iload_n hO dX5_copy_80 rfl rfl ?_
                  refine G_iaload hO dX5_copy_81 (ShM.c18 hC) c7 ?_
                  refine G_i2l hO dX5_copy_82 ?_
                  refine G_lcmp hO dX5_copy_83 ?_
                  refine G_if_gt (tgt := 105) hO dX5_copy_84 (by decide) (fun c15 => ?_) (fun c15 => ?_)
                  · have h := h.1 c15
                    refine G_bipush (v := -12) hO dX5_copy_105 rfl ?_
                    exact G_iret hO dX5_copy_107 rfl rfl (QI.i h)
                  · have h := h.2 c15
                    refine G_iload hO dX5_copy_87 rfl ?_
                    refine G_i2l hO dX5_copy_89 ?_
                    refine G_iload hO dX5_copy_90 rfl ?_
                    refine G_i2l hO dX5_copy_92 ?_
                    refine G_ladd hO dX5_copy_93 ?_
                    refine G_aload_n hO dX5_copy_94 rfl rfl ?_
                    refine gr_X5_62 (c := 18) hO dX5_copy_95 (ShM.c0 hC) rfl ?_
                    refine G_iload_n hO dX5_copy_98 rfl rfl ?_
                    refine G_iaload hO dX5_copy_99 (ShM.c18 hC) c9 ?_
                    refine G_i2l hO dX5_copy_100 ?_
                    refine G_lcmp hO dX5_copy_101 ?_
                    refine G_if_le (tgt := 108) hO dX5_copy_102 (by decide) (fun c16 => ?_) (fun c16 => ?_)
                    · have h := h.1 c16
                      refine G_iload_n hO dX5_copy_108 rfl rfl ?_
                      refine G_iload_n hO dX5_copy_109 rfl rfl ?_
                      refine G_icmp_ne (tgt := 168) hO dX5_copy_110 (by decide) (fun c17 => ?_) (fun c17 => ?_)
                      · have h := h.1 c17
                        refine G_iconst (v := 0) hO dX5_copy_168 rfl ?_
                        refine G_istore (lv2 := [some (.ref (gad Γ 0)), some (.int p1), some (.int p2), some (.int p3), some (.int p4), some (.int p5), some (.int (0 : Int32))]) hO dX5_copy_169 (by decide) rfl rfl ?_
                        exact GG.sub (lv2 := [some (.ref (gad Γ 0)), some (.int p1), some (.int p2), some (.int p3), some (.int p4), some (.int p5), some (.int (0 : Int32))]) ⟨rfl, ⟨rfl, ⟨rfl, ⟨rfl, ⟨rfl, ⟨rfl, ⟨rfl, trivial⟩⟩⟩⟩⟩⟩⟩ h
                      · have h := h.2 c17
                        refine G_iload_n hO dX5_copy_113 rfl rfl ?_
                        refine G_iload hO dX5_copy_114 rfl ?_
                        refine G_icmp_ge (tgt := 168) hO dX5_copy_116 (by decide) (fun c18 => ?_) (fun c18 => ?_)
                        · have h := h.1 c18
                          refine G_iconst (v := 0) hO dX5_copy_168 rfl ?_
                          refine G_istore (lv2 := [some (.ref (gad Γ 0)), some (.int p1), some (.int p2), some (.int p3), some (.int p4), some (.int p5), some (.int (0 : Int32))]) hO dX5_copy_169 (by decide) rfl rfl ?_
                          exact GG.sub (lv2 := [some (.ref (gad Γ 0)), some (.int p1), some (.int p2), some (.int p3), some (.int p4), some (.int p5), some (.int (0 : Int32))]) ⟨rfl, ⟨rfl, ⟨rfl, ⟨rfl, ⟨rfl, ⟨rfl, ⟨rfl, trivial⟩⟩⟩⟩⟩⟩⟩ h
                        · have h := h.2 c18
                          refine G_iload hO dX5_copy_119 rfl ?_
                          refine G_iconst (v := 1) hO dX5_copy_121 rfl ?_
                          refine G_isub hO dX5_copy_122 ?_
                          refine G_istore (lv2 := [some (.ref (gad Γ 0)), some (.int p1), some (.int p2), some (.int p3), some (.int p4), some (.int p5), some (.int (p5 - (1 : Int32)))]) hO dX5_copy_123 (by decide) rfl rfl ?_
                          exact GG.sub (lv2 := [some (.ref (gad Γ 0)), some (.int p1), some (.int p2), some (.int p3), some (.int p4), some (.int p5), some (.int (p5 - (1 : Int32)))]) ⟨rfl, ⟨rfl, ⟨rfl, ⟨rfl, ⟨rfl, ⟨rfl, ⟨rfl, trivial⟩⟩⟩⟩⟩⟩⟩ h
                    · have h := h.2 c16
                      refine G_bipush (v := -12) hO dX5_copy_105 rfl ?_
                      exact G_iret hO dX5_copy_107 rfl rfl (QI.i h)
          · have h := h.2 c11
            refine G_bipush (v := -13) hO dX5_copy_53 rfl ?_
            exact G_iret hO dX5_copy_55 rfl rfl (QI.i h)
        · have h := h.2 c10
          refine G_bipush (v := -11) hO dX5_copy_35 rfl ?_
          exact G_iret hO dX5_copy_37 rfl rfl (QI.i h)
    · have h := h.2 c6
      refine G_bipush (v := -2) hO dX5_copy_14 rfl ?_
      exact G_iret hO dX5_copy_16 rfl rfl (QI.i h)
def wp_X5_people (Γ : Gx) (d : Nat) (p1 : Int32) (p2 : Int32) (p3 : Int32) (p4 : Int32) (w : Wd) (Q : Int32 → Wd → Prop) : Prop :=
  ∀ (P_60 : Int32 → Int32 → Wd → Prop),
  (∀ (l5 : Int32) (l6 : Int32) (w : Wd), ((p4 ≤ l6 → Q l5 w) ∧ (¬ p4 ≤ l6 → (((lg_cmp ((p3.toInt64) + ((2 : Int64) * (l6.toInt64))) (0 : Int64)) < 0 → Q (-12 : Int32) w) ∧ (¬ (lg_cmp ((p3.toInt64) + ((2 : Int64) * (l6.toInt64))) (0 : Int64)) < 0 → (vp_in p1 4 ∧ (((lg_cmp (((p3.toInt64) + ((2 : Int64) * (l6.toInt64))) + (1 : Int64)) ((w 18 (p1).toNatClampNeg).toInt64)) < 0 → (∀ v17 : Int32, v17 = (((40 : Int32) * p1) + (((p3.toInt64) + ((2 : Int64) * (l6.toInt64))).toInt32)) → (vp_in v17 160 ∧ (vp_in (v17 + (1 : Int32)) 160 ∧ CI Γ d M_X5_person [.ref (gad Γ 0), .int (w 19 (v17).toNatClampNeg), .int (w 19 ((v17 + (1 : Int32))).toNatClampNeg)] w (fun r21 w22 => ((r21 < 0 → P_60 l5 (l6 + 1) w22) ∧ (¬ r21 < 0 → P_60 (l5 + 1) (l6 + 1) w22))))))) ∧ (¬ (lg_cmp (((p3.toInt64) + ((2 : Int64) * (l6.toInt64))) + (1 : Int64)) ((w 18 (p1).toNatClampNeg).toInt64)) < 0 → Q (-12 : Int32) w))))))) → P_60 l5 l6 w) →
  CI Γ d M_X5_isSheet [.int p1] w (fun r1 w2 => ((r1 = 0 → Q (-2 : Int32) w2) ∧ (¬ r1 = 0 → CI Γ d M_X5_within [.int p2, .int (0 : Int32), .int (2 : Int32)] w2 (fun r4 w5 => ((r4 = 0 → Q (-2 : Int32) w5) ∧ (¬ r4 = 0 → CI Γ d M_X5_within [.int p4, .int (0 : Int32), .int (5 : Int32)] w5 (fun r7 w8 => ((¬ r7 = 0 → (vp_in p1 4 ∧ ((0 ≤ (w8 17 (p1).toNatClampNeg) → (((w8 17 (p1).toNatClampNeg) = p2 → P_60 (0 : Int32) (0 : Int32) w8) ∧ (¬ (w8 17 (p1).toNatClampNeg) = p2 → Q (-13 : Int32) w8))) ∧ (¬ 0 ≤ (w8 17 (p1).toNatClampNeg) → Q (-11 : Int32) w8)))) ∧ (r7 = 0 → Q (-2 : Int32) w8)))))))))
set_option maxRecDepth 20000 in
theorem con_X5_people {Γ : Gx} {d : Nat} (hG : GM Γ) {p1 : Int32} {p2 : Int32} {p3 : Int32} {p4 : Int32}  {w : Wd} {Q : Int32 → Wd → Prop} (h : wp_X5_people Γ d p1 p2 p3 p4 w Q) : CI Γ (d + 1) M_X5_people [.ref (gad Γ 0), .int p1, .int p2, .int p3, .int p4] w Q := by
  have hC := hG.2
  refine Con.of RX5 cX5_people 10 (some .int) [some (.ref (gad Γ 0)), some (.int p1), some (.int p2), some (.int p3), some (.int p4), none, none, none, none, none] rfl rfl (by decide +kernel) hG.1 (catR (catI (catI (catI (catI cat0))))) (Nat.le_of_ble_eq_true rfl) rfl ?_
  intro X hO
  have h := h
    (fun (l5 : Int32) (l6 : Int32) (w : Wd) => GG Γ X (d + 1) 10 (QI Q) 60 [some (.ref (gad Γ 0)), some (.int p1), none, some (.int p3), some (.int p4), some (.int l5), some (.int l6), none, none, none] [] w)
    (by
        intro l5 l6 w h
        refine G_iload hO dX5_people_60 rfl ?_
        refine G_iload hO dX5_people_62 rfl ?_
        refine G_icmp_ge (tgt := 146) hO dX5_people_64 (by decide) (fun c13 => ?_) (fun c13 => ?_)
        · have h := h.1 c13
          refine G_iload hO dX5_people_146 rfl ?_
          exact G_iret hO dX5_people_148 rfl rfl (QI.i h)
        · have h := h.2 c13
          refine G_iload_n hO dX5_people_67 rfl rfl ?_
          refine G_i2l hO dX5_people_68 ?_
          refine G_ldc2_w (v := 2) hO dX5_people_69 kc_X5_315 ?_
          refine G_iload hO dX5_people_72 rfl ?_
          refine G_i2l hO dX5_people_74 ?_
          refine G_lmul hO dX5_people_75 ?_
          refine G_ladd hO dX5_people_76 ?_
          refine G_lstore (lv2 := [some (.ref (gad Γ 0)), some (.int p1), none, some (.int p3), some (.int p4), some (.int l5), some (.int l6), some (.long ((p3.toInt64) + ((2 : Int64) * (l6.toInt64)))), none, none]) hO dX5_people_77 (by decide) rfl rfl ?_
          refine G_lload hO dX5_people_79 rfl ?_
          refine G_lconst (v := 0) hO dX5_people_81 rfl ?_
          refine G_lcmp hO dX5_people_82 ?_
          refine G_if_lt (tgt := 101) hO dX5_people_83 (by decide) (fun c14 => ?_) (fun c14 => ?_)
          · have h := h.1 c14
            refine G_bipush (v := -12) hO dX5_people_101 rfl ?_
            exact G_iret hO dX5_people_103 rfl rfl (QI.i h)
          · have h := h.2 c14
            refine G_lload hO dX5_people_86 rfl ?_
            refine G_lconst (v := 1) hO dX5_people_88 rfl ?_
            refine G_ladd hO dX5_people_89 ?_
            refine G_aload_n hO dX5_people_90 rfl rfl ?_
            refine gr_X5_62 (c := 18) hO dX5_people_91 (ShM.c0 hC) rfl ?_
            refine G_iload_n hO dX5_people_94 rfl rfl ?_
            obtain ⟨c15, h⟩ := h
            refine G_iaload hO dX5_people_95 (ShM.c18 hC) c15 ?_
            refine G_i2l hO dX5_people_96 ?_
            refine G_lcmp hO dX5_people_97 ?_
            refine G_if_lt (tgt := 104) hO dX5_people_98 (by decide) (fun c16 => ?_) (fun c16 => ?_)
            · have h := h.1 c16
              refine G_bipush (v := 40) hO dX5_people_104 rfl ?_
              refine G_iload_n hO dX5_people_106 rfl rfl ?_
              refine G_imul hO dX5_people_107 ?_
              refine G_lload hO dX5_people_108 rfl ?_
              refine G_l2i hO dX5_people_110 ?_
              refine G_iadd hO dX5_people_111 ?_
              refine GG.nmi (fun v17 e18 => ?_)
              have h := h v17 e18
              refine G_istore (lv2 := [some (.ref (gad Γ 0)), some (.int p1), none, some (.int p3), some (.int p4), some (.int l5), some (.int l6), some (.long ((p3.toInt64) + ((2 : Int64) * (l6.toInt64)))), none, some (.int v17)]) hO dX5_people_112 (by decide) rfl rfl ?_
              refine G_aload_n hO dX5_people_114 rfl rfl ?_
              refine G_aload_n hO dX5_people_115 rfl rfl ?_
              refine gr_X5_65 (c := 19) hO dX5_people_116 (ShM.c0 hC) rfl ?_
              refine G_iload hO dX5_people_119 rfl ?_
              obtain ⟨c19, h⟩ := h
              refine G_iaload hO dX5_people_121 (ShM.c19 hC) c19 ?_
              refine GG.atpc (pc2 := 122) rfl ?_
              refine G_aload_n hO dX5_people_122 rfl rfl ?_
              refine gr_X5_65 (c := 19) hO dX5_people_123 (ShM.c0 hC) rfl ?_
              refine G_iload hO dX5_people_126 rfl ?_
              refine G_iconst (v := 1) hO dX5_people_128 rfl ?_
              refine G_iadd hO dX5_people_129 ?_
              obtain ⟨c20, h⟩ := h
              refine G_iaload hO dX5_people_130 (ShM.c19 hC) c20 ?_
              refine G_callVi hO dX5_people_131 h cl_X5_317 (ShM.c0 hC) rfl rfl (Nat.le_of_ble_eq_true rfl) (fun r21 w22 h => ?_) rfl
              refine G_if_lt (tgt := 140) hO dX5_people_134 (by decide) (fun c23 => ?_) (fun c23 => ?_)
              · have h := h.1 c23
                refine G_iinc (v := (l6 + 1)) (lv2 := [some (.ref (gad Γ 0)), some (.int p1), none, some (.int p3), some (.int p4), some (.int l5), some (.int (l6 + 1)), some (.long ((p3.toInt64) + ((2 : Int64) * (l6.toInt64)))), none, some (.int v17)]) hO dX5_people_140 rfl rfl (by decide) rfl rfl ?_
                refine G_goto (tgt := 60) hO dX5_people_143 (by decide) ?_
                exact GG.sub (lv2 := [some (.ref (gad Γ 0)), some (.int p1), none, some (.int p3), some (.int p4), some (.int l5), some (.int (l6 + 1)), none, none, none]) ⟨rfl, ⟨rfl, ⟨rfl, ⟨rfl, ⟨rfl, ⟨rfl, trivial⟩⟩⟩⟩⟩⟩ h
              · have h := h.2 c23
                refine G_iinc (v := (l5 + 1)) (lv2 := [some (.ref (gad Γ 0)), some (.int p1), none, some (.int p3), some (.int p4), some (.int (l5 + 1)), some (.int l6), some (.long ((p3.toInt64) + ((2 : Int64) * (l6.toInt64)))), none, some (.int v17)]) hO dX5_people_137 rfl rfl (by decide) rfl rfl ?_
                refine G_iinc (v := (l6 + 1)) (lv2 := [some (.ref (gad Γ 0)), some (.int p1), none, some (.int p3), some (.int p4), some (.int (l5 + 1)), some (.int (l6 + 1)), some (.long ((p3.toInt64) + ((2 : Int64) * (l6.toInt64)))), none, some (.int v17)]) hO dX5_people_140 rfl rfl (by decide) rfl rfl ?_
                refine G_goto (tgt := 60) hO dX5_people_143 (by decide) ?_
                exact GG.sub (lv2 := [some (.ref (gad Γ 0)), some (.int p1), none, some (.int p3), some (.int p4), some (.int (l5 + 1)), some (.int (l6 + 1)), none, none, none]) ⟨rfl, ⟨rfl, ⟨rfl, ⟨rfl, ⟨rfl, ⟨rfl, trivial⟩⟩⟩⟩⟩⟩ h
            · have h := h.2 c16
              refine G_bipush (v := -12) hO dX5_people_101 rfl ?_
              exact G_iret hO dX5_people_103 rfl rfl (QI.i h))
  refine G_iload_n hO dX5_people_0 rfl rfl ?_
  refine G_callSi hO dX5_people_1 h cl_X5_279 rfl (Nat.le_of_ble_eq_true rfl) (fun r1 w2 h => ?_) rfl
  refine G_if_eq (tgt := 26) hO dX5_people_4 (by decide) (fun c3 => ?_) (fun c3 => ?_)
  · have h := h.1 c3
    refine G_bipush (v := -2) hO dX5_people_26 rfl ?_
    exact G_iret hO dX5_people_28 rfl rfl (QI.i h)
  · have h := h.2 c3
    refine G_iload_n hO dX5_people_7 rfl rfl ?_
    refine G_iconst (v := 0) hO dX5_people_8 rfl ?_
    refine G_iconst (v := 2) hO dX5_people_9 rfl ?_
    refine G_callSi hO dX5_people_10 h cl_X5_82 rfl (Nat.le_of_ble_eq_true rfl) (fun r4 w5 h => ?_) rfl
    refine G_if_eq (tgt := 26) hO dX5_people_13 (by decide) (fun c6 => ?_) (fun c6 => ?_)
    · have h := h.1 c6
      refine G_bipush (v := -2) hO dX5_people_26 rfl ?_
      exact G_iret hO dX5_people_28 rfl rfl (QI.i h)
    · have h := h.2 c6
      refine G_iload hO dX5_people_16 rfl ?_
      refine G_iconst (v := 0) hO dX5_people_18 rfl ?_
      refine G_iconst (v := 5) hO dX5_people_19 rfl ?_
      refine G_callSi hO dX5_people_20 h cl_X5_82 rfl (Nat.le_of_ble_eq_true rfl) (fun r7 w8 h => ?_) rfl
      refine G_if_ne (tgt := 29) hO dX5_people_23 (by decide) (fun c9 => ?_) (fun c9 => ?_)
      · have h := h.1 c9
        refine G_aload_n hO dX5_people_29 rfl rfl ?_
        refine gr_X5_59 (c := 17) hO dX5_people_30 (ShM.c0 hC) rfl ?_
        refine G_iload_n hO dX5_people_33 rfl rfl ?_
        obtain ⟨c10, h⟩ := h
        refine G_iaload hO dX5_people_34 (ShM.c17 hC) c10 ?_
        refine G_if_ge (tgt := 41) hO dX5_people_35 (by decide) (fun c11 => ?_) (fun c11 => ?_)
        · have h := h.1 c11
          refine G_aload_n hO dX5_people_41 rfl rfl ?_
          refine gr_X5_59 (c := 17) hO dX5_people_42 (ShM.c0 hC) rfl ?_
          refine G_iload_n hO dX5_people_45 rfl rfl ?_
          refine G_iaload hO dX5_people_46 (ShM.c17 hC) c10 ?_
          refine G_iload_n hO dX5_people_47 rfl rfl ?_
          refine G_icmp_eq (tgt := 54) hO dX5_people_48 (by decide) (fun c12 => ?_) (fun c12 => ?_)
          · have h := h.1 c12
            refine G_iconst (v := 0) hO dX5_people_54 rfl ?_
            refine G_istore (lv2 := [some (.ref (gad Γ 0)), some (.int p1), some (.int p2), some (.int p3), some (.int p4), some (.int (0 : Int32)), none, none, none, none]) hO dX5_people_55 (by decide) rfl rfl ?_
            refine G_iconst (v := 0) hO dX5_people_57 rfl ?_
            refine G_istore (lv2 := [some (.ref (gad Γ 0)), some (.int p1), some (.int p2), some (.int p3), some (.int p4), some (.int (0 : Int32)), some (.int (0 : Int32)), none, none, none]) hO dX5_people_58 (by decide) rfl rfl ?_
            exact GG.sub (lv2 := [some (.ref (gad Γ 0)), some (.int p1), none, some (.int p3), some (.int p4), some (.int (0 : Int32)), some (.int (0 : Int32)), none, none, none]) ⟨rfl, ⟨rfl, ⟨rfl, ⟨rfl, ⟨rfl, ⟨rfl, trivial⟩⟩⟩⟩⟩⟩ h
          · have h := h.2 c12
            refine G_bipush (v := -13) hO dX5_people_51 rfl ?_
            exact G_iret hO dX5_people_53 rfl rfl (QI.i h)
        · have h := h.2 c11
          refine G_bipush (v := -11) hO dX5_people_38 rfl ?_
          exact G_iret hO dX5_people_40 rfl rfl (QI.i h)
      · have h := h.2 c9
        refine G_bipush (v := -2) hO dX5_people_26 rfl ?_
        exact G_iret hO dX5_people_28 rfl rfl (QI.i h)
def wp_X5_taken (Γ : Gx) (d : Nat) (p1 : Int32) (p2 : Int32) (w : Wd) (Q : Int32 → Wd → Prop) : Prop :=
  ∀ (P_30 : Int32 → Wd → Prop),
  (∀ (l3 : Int32) (w : Wd), ((l3 = p2 → ((¬ l3 = p2 → Q (-13 : Int32) w) ∧ (l3 = p2 → (vp_in p1 5 ∧ Q (w 3 (p1).toNatClampNeg) w)))) ∧ (¬ l3 = p2 → ((l3 ≤ 0 → ((¬ l3 = p2 → Q (-13 : Int32) w) ∧ (l3 = p2 → (vp_in p1 5 ∧ Q (w 3 (p1).toNatClampNeg) w)))) ∧ (¬ l3 ≤ 0 → ((¬ l3 = (3 : Int32) → ((¬ l3 = (4 : Int32) → P_30 (0 : Int32) w) ∧ (l3 = (4 : Int32) → P_30 (2 : Int32) w))) ∧ (l3 = (3 : Int32) → P_30 (1 : Int32) w)))))) → P_30 l3 w) →
  CI Γ d M_X5_within [.int p2, .int (0 : Int32), .int (5 : Int32)] w (fun r1 w2 => ((¬ r1 = 0 → CI Γ d M_X5_isOne [.ref (gad Γ 0), .int p1] w2 (fun r4 w5 => ((¬ r4 = 0 → (vp_in p1 5 ∧ P_30 (w5 2 (p1).toNatClampNeg) w5)) ∧ (r4 = 0 → Q (-11 : Int32) w5)))) ∧ (r1 = 0 → Q (-2 : Int32) w2)))
set_option maxRecDepth 20000 in
theorem con_X5_taken {Γ : Gx} {d : Nat} (hG : GM Γ) {p1 : Int32} {p2 : Int32}  {w : Wd} {Q : Int32 → Wd → Prop} (h : wp_X5_taken Γ d p1 p2 w Q) : CI Γ (d + 1) M_X5_taken [.ref (gad Γ 0), .int p1, .int p2] w Q := by
  have hC := hG.2
  refine Con.of RX5 cX5_taken 4 (some .int) [some (.ref (gad Γ 0)), some (.int p1), some (.int p2), none] rfl rfl (by decide +kernel) hG.1 (catR (catI (catI cat0))) (Nat.le_of_ble_eq_true rfl) rfl ?_
  intro X hO
  have h := h
    (fun (l3 : Int32) (w : Wd) => GG Γ X (d + 1) 4 (QI Q) 30 [some (.ref (gad Γ 0)), some (.int p1), some (.int p2), some (.int l3)] [] w)
    (by
        intro l3 w h
        refine G_iload_n hO dX5_taken_30 rfl rfl ?_
        refine G_iload_n hO dX5_taken_31 rfl rfl ?_
        refine G_icmp_eq (tgt := 62) hO dX5_taken_32 (by decide) (fun c8 => ?_) (fun c8 => ?_)
        · have h := h.1 c8
          refine G_iload_n hO dX5_taken_62 rfl rfl ?_
          refine G_iload_n hO dX5_taken_63 rfl rfl ?_
          refine G_icmp_ne (tgt := 76) hO dX5_taken_64 (by decide) (fun c9 => ?_) (fun c9 => ?_)
          · have h := h.1 c9
            refine G_bipush (v := -13) hO dX5_taken_76 rfl ?_
            exact G_iret hO dX5_taken_78 rfl rfl (QI.i h)
          · have h := h.2 c9
            refine G_aload_n hO dX5_taken_67 rfl rfl ?_
            refine gr_X5_17 (c := 3) hO dX5_taken_68 (ShM.c0 hC) rfl ?_
            refine G_iload_n hO dX5_taken_71 rfl rfl ?_
            obtain ⟨c10, h⟩ := h
            refine G_iaload hO dX5_taken_72 (ShM.c3 hC) c10 ?_
            refine G_goto (tgt := 78) hO dX5_taken_73 (by decide) ?_
            exact G_iret hO dX5_taken_78 rfl rfl (QI.i h)
        · have h := h.2 c8
          refine G_iload_n hO dX5_taken_35 rfl rfl ?_
          refine G_if_le (tgt := 62) hO dX5_taken_36 (by decide) (fun c11 => ?_) (fun c11 => ?_)
          · have h := h.1 c11
            refine G_iload_n hO dX5_taken_62 rfl rfl ?_
            refine G_iload_n hO dX5_taken_63 rfl rfl ?_
            refine G_icmp_ne (tgt := 76) hO dX5_taken_64 (by decide) (fun c12 => ?_) (fun c12 => ?_)
            · have h := h.1 c12
              refine G_bipush (v := -13) hO dX5_taken_76 rfl ?_
              exact G_iret hO dX5_taken_78 rfl rfl (QI.i h)
            · have h := h.2 c12
              refine G_aload_n hO dX5_taken_67 rfl rfl ?_
              refine gr_X5_17 (c := 3) hO dX5_taken_68 (ShM.c0 hC) rfl ?_
              refine G_iload_n hO dX5_taken_71 rfl rfl ?_
              obtain ⟨c13, h⟩ := h
              refine G_iaload hO dX5_taken_72 (ShM.c3 hC) c13 ?_
              refine G_goto (tgt := 78) hO dX5_taken_73 (by decide) ?_
              exact G_iret hO dX5_taken_78 rfl rfl (QI.i h)
          · have h := h.2 c11
            refine G_iload_n hO dX5_taken_39 rfl rfl ?_
            refine G_iconst (v := 3) hO dX5_taken_40 rfl ?_
            refine G_icmp_ne (tgt := 48) hO dX5_taken_41 (by decide) (fun c14 => ?_) (fun c14 => ?_)
            · have h := h.1 c14
              refine G_iload_n hO dX5_taken_48 rfl rfl ?_
              refine G_iconst (v := 4) hO dX5_taken_49 rfl ?_
              refine G_icmp_ne (tgt := 57) hO dX5_taken_50 (by decide) (fun c15 => ?_) (fun c15 => ?_)
              · have h := h.1 c15
                refine G_iconst (v := 0) hO dX5_taken_57 rfl ?_
                refine G_istore_n (lv2 := [some (.ref (gad Γ 0)), some (.int p1), some (.int p2), some (.int (0 : Int32))]) hO dX5_taken_58 rfl (by decide) rfl rfl ?_
                refine G_goto (tgt := 30) hO dX5_taken_59 (by decide) ?_
                exact GG.sub (lv2 := [some (.ref (gad Γ 0)), some (.int p1), some (.int p2), some (.int (0 : Int32))]) ⟨rfl, ⟨rfl, ⟨rfl, ⟨rfl, trivial⟩⟩⟩⟩ h
              · have h := h.2 c15
                refine G_iconst (v := 2) hO dX5_taken_53 rfl ?_
                refine G_goto (tgt := 58) hO dX5_taken_54 (by decide) ?_
                refine G_istore_n (lv2 := [some (.ref (gad Γ 0)), some (.int p1), some (.int p2), some (.int (2 : Int32))]) hO dX5_taken_58 rfl (by decide) rfl rfl ?_
                refine G_goto (tgt := 30) hO dX5_taken_59 (by decide) ?_
                exact GG.sub (lv2 := [some (.ref (gad Γ 0)), some (.int p1), some (.int p2), some (.int (2 : Int32))]) ⟨rfl, ⟨rfl, ⟨rfl, ⟨rfl, trivial⟩⟩⟩⟩ h
            · have h := h.2 c14
              refine G_iconst (v := 1) hO dX5_taken_44 rfl ?_
              refine G_goto (tgt := 58) hO dX5_taken_45 (by decide) ?_
              refine G_istore_n (lv2 := [some (.ref (gad Γ 0)), some (.int p1), some (.int p2), some (.int (1 : Int32))]) hO dX5_taken_58 rfl (by decide) rfl rfl ?_
              refine G_goto (tgt := 30) hO dX5_taken_59 (by decide) ?_
              exact GG.sub (lv2 := [some (.ref (gad Γ 0)), some (.int p1), some (.int p2), some (.int (1 : Int32))]) ⟨rfl, ⟨rfl, ⟨rfl, ⟨rfl, trivial⟩⟩⟩⟩ h)
  refine G_iload_n hO dX5_taken_0 rfl rfl ?_
  refine G_iconst (v := 0) hO dX5_taken_1 rfl ?_
  refine G_iconst (v := 5) hO dX5_taken_2 rfl ?_
  refine G_callSi hO dX5_taken_3 h cl_X5_82 rfl (Nat.le_of_ble_eq_true rfl) (fun r1 w2 h => ?_) rfl
  refine G_if_ne (tgt := 12) hO dX5_taken_6 (by decide) (fun c3 => ?_) (fun c3 => ?_)
  · have h := h.1 c3
    refine G_aload_n hO dX5_taken_12 rfl rfl ?_
    refine G_iload_n hO dX5_taken_13 rfl rfl ?_
    refine G_callVi hO dX5_taken_14 h cl_X5_86 (ShM.c0 hC) rfl rfl (Nat.le_of_ble_eq_true rfl) (fun r4 w5 h => ?_) rfl
    refine G_if_ne (tgt := 23) hO dX5_taken_17 (by decide) (fun c6 => ?_) (fun c6 => ?_)
    · have h := h.1 c6
      refine G_aload_n hO dX5_taken_23 rfl rfl ?_
      refine gr_X5_13 (c := 2) hO dX5_taken_24 (ShM.c0 hC) rfl ?_
      refine G_iload_n hO dX5_taken_27 rfl rfl ?_
      obtain ⟨c7, h⟩ := h
      refine G_iaload hO dX5_taken_28 (ShM.c2 hC) c7 ?_
      refine G_istore_n (lv2 := [some (.ref (gad Γ 0)), some (.int p1), some (.int p2), some (.int (w5 2 (p1).toNatClampNeg))]) hO dX5_taken_29 rfl (by decide) rfl rfl ?_
      exact GG.sub (lv2 := [some (.ref (gad Γ 0)), some (.int p1), some (.int p2), some (.int (w5 2 (p1).toNatClampNeg))]) ⟨rfl, ⟨rfl, ⟨rfl, ⟨rfl, trivial⟩⟩⟩⟩ h
    · have h := h.2 c6
      refine G_bipush (v := -11) hO dX5_taken_20 rfl ?_
      exact G_iret hO dX5_taken_22 rfl rfl (QI.i h)
  · have h := h.2 c3
    refine G_bipush (v := -2) hO dX5_taken_9 rfl ?_
    exact G_iret hO dX5_taken_11 rfl rfl (QI.i h)
