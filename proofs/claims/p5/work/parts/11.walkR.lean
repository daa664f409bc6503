/-! what each method does, by program out of its bytecode (wp_..), and that the machine does it (con_..) -/
def wp_X1_takeByte (Γ : Gx) (d : Nat) (p1 : Int32) (w : Wd) (Q : Int32 → Wd → Prop) : Prop :=
  (((w 3 0) < (160 : Int32) → (vp_in (w 3 0) 160 ∧ (∀ w3 : Wd, w3 = wset w 4 ((w 3 0)).toNatClampNeg p1 → (∀ w5 : Wd, w5 = wset w3 3 0 ((w3 3 0) + (1 : Int32)) → Q (1 : Int32) w5)))) ∧ (¬ (w 3 0) < (160 : Int32) → Q (0 : Int32) w))
set_option maxRecDepth 20000 in
theorem con_X1_takeByte {Γ : Gx} {d : Nat} (hG : GC Γ) {p1 : Int32}  {w : Wd} {Q : Int32 → Wd → Prop} (h : wp_X1_takeByte Γ d p1 w Q) : CI Γ (d + 1) M_X1_takeByte [.ref (gad Γ 3), .int p1] w Q := by
  have hC := hG.2.1
  refine Con.of RX1 cX1_takeByte 2 (some .boolean) [some (.ref (gad Γ 3)), some (.int p1)] rfl rfl (by decide +kernel) hG.1 (catR (catI cat0)) (Nat.le_of_ble_eq_true rfl) rfl ?_
  intro X hO
  refine G_aload_n hO dX1_takeByte_0 rfl rfl ?_
  refine gi_X1_15 hO dX1_takeByte_1 (ShC.r3 hC).1 rfl ?_
  refine G_sipush (v := 160) hO dX1_takeByte_4 rfl ?_
  refine G_icmp_lt (tgt := 12) hO dX1_takeByte_7 (by decide) (fun c1 => ?_) (fun c1 => ?_)
  · have h := h.1 c1
    refine G_aload_n hO dX1_takeByte_12 rfl rfl ?_
    refine gr_X1_9 (c := 4) hO dX1_takeByte_13 (ShC.r3 hC).1 rfl ?_
    refine G_aload_n hO dX1_takeByte_16 rfl rfl ?_
    refine gi_X1_15 hO dX1_takeByte_17 (ShC.r3 hC).1 rfl ?_
    refine G_iload_n hO dX1_takeByte_20 rfl rfl ?_
    obtain ⟨c2, h⟩ := h
    refine G_iastore hO dX1_takeByte_21 (ShC.r3 hC).2 c2 ?_
    refine GG.nmw (fun w3 e4 => ?_)
    have h := h w3 e4
    refine G_aload_n hO dX1_takeByte_22 rfl rfl ?_
    refine G_dup hO dX1_takeByte_23 rfl ?_
    refine gi_X1_15 hO dX1_takeByte_24 (ShC.r3 hC).1 rfl ?_
    refine G_iconst (v := 1) hO dX1_takeByte_27 rfl ?_
    refine G_iadd hO dX1_takeByte_28 ?_
    refine pi_X1_15 hO dX1_takeByte_29 (ShC.r3 hC).1 rfl ?_
    refine GG.nmw (fun w5 e6 => ?_)
    have h := h w5 e6
    refine GG.atpc (pc2 := 32) rfl ?_
    refine G_iconst (v := 1) hO dX1_takeByte_32 rfl ?_
    exact G_iret hO dX1_takeByte_33 rfl rfl (QI.i h)
  · have h := h.2 c1
    refine G_iconst (v := 0) hO dX1_takeByte_10 rfl ?_
    exact G_iret hO dX1_takeByte_11 rfl rfl (QI.i h)
def wp_X1_readInto (Γ : Gx) (d : Nat) (a1 : Nat) (w : Wd) (Q : Int32 → Wd → Prop) : Prop :=
  ∀ (P_33 : Int32 → Wd → Prop),
  (∀ (l2 : Int32) (w : Wd), (((3 : Int32) ≤ l2 → (¬ w 3 2 = -1 ∧ (ShT Γ (w 3 2).toNatClampNeg ∧ CV Γ d M_X3_beginPart [.ref (gad Γ ((w 3 2).toNatClampNeg)), .int (3 : Int32)] w (fun w20 => CV Γ d M_X1_pass [.ref (gad Γ 3), .int (0 : Int32)] w20 (fun w22 => Q (w22 3 8) w22))))) ∧ (¬ (3 : Int32) ≤ l2 → (¬ w 3 2 = -1 ∧ (ShT Γ (w 3 2).toNatClampNeg ∧ CV Γ d M_X3_beginPart [.ref (gad Γ ((w 3 2).toNatClampNeg)), .int l2] w (fun w26 => CV Γ d M_X1_pass [.ref (gad Γ 3), .int ((4 : Int32) + l2)] w26 (fun w28 => CV Γ d M_X1_readOr [.ref (gad Γ 3)] w28 (fun w30 => CV Γ d M_X1_pass [.ref (gad Γ 3), .int (59 : Int32)] w30 (fun w32 => P_33 (l2 + 1) w32)))))))) → P_33 l2 w) →
  (a1 < 1000 ∧ (∀ w2 : Wd, w2 = wset w 3 2 (nI a1) → (¬ w2 3 2 = -1 ∧ (ShT Γ (w2 3 2).toNatClampNeg ∧ CV Γ d M_X3_empty [.ref (gad Γ ((w2 3 2).toNatClampNeg))] w2 (fun w7 => (∀ w8 : Wd, w8 = wset w7 3 3 (0 : Int32) → (∀ w10 : Wd, w10 = wset w8 3 7 (0 : Int32) → (∀ w12 : Wd, w12 = wset w10 3 8 (-1 : Int32) → CV Γ d M_X1_readToken [.ref (gad Γ 3)] w12 (fun w15 => P_33 (0 : Int32) w15)))))))))
set_option maxRecDepth 20000 in
theorem con_X1_readInto {Γ : Gx} {d : Nat} (hG : GC Γ) {a1 : Nat} (ha1 : ShT Γ a1) {w : Wd} {Q : Int32 → Wd → Prop} (h : wp_X1_readInto Γ d a1 w Q) : CI Γ (d + 1) M_X1_readInto [.ref (gad Γ 3), .ref (gad Γ a1)] w Q := by
  have hC := hG.2.1
  refine Con.of RX1 cX1_readInto 3 (some .int) [some (.ref (gad Γ 3)), some (.ref (gad Γ a1)), none] rfl rfl (by decide +kernel) hG.1 (catR (catR cat0)) (Nat.le_of_ble_eq_true rfl) rfl ?_
  intro X hO
  have h := h
    (fun (l2 : Int32) (w : Wd) => GG Γ X (d + 1) 3 (QI Q) 33 [some (.ref (gad Γ 3)), none, some (.int l2)] [] w)
    (by
        intro l2 w h
        refine G_iload_n hO dX1_readInto_33 rfl rfl ?_
        refine G_iconst (v := 3) hO dX1_readInto_34 rfl ?_
        refine G_icmp_ge (tgt := 69) hO dX1_readInto_35 (by decide) (fun c16 => ?_) (fun c16 => ?_)
        · have h := h.1 c16
          refine G_aload_n hO dX1_readInto_69 rfl rfl ?_
          obtain ⟨c17, h⟩ := h
          obtain ⟨c18, h⟩ := h
          refine gd_X1_19 hO dX1_readInto_70 (ShC.r3 hC).1 rfl c17 ?_
          refine G_iconst (v := 3) hO dX1_readInto_73 rfl ?_
          refine G_callVv hO dX1_readInto_74 h cl_X1_40 c18.1 rfl rfl (Nat.le_of_ble_eq_true rfl) (fun w20 h => ?_) rfl
          refine G_aload_n hO dX1_readInto_77 rfl rfl ?_
          refine G_iconst (v := 0) hO dX1_readInto_78 rfl ?_
          refine G_callVv hO dX1_readInto_79 h cl_X1_44 (ShC.r3 hC).1 rfl rfl (Nat.le_of_ble_eq_true rfl) (fun w22 h => ?_) rfl
          refine G_aload_n hO dX1_readInto_82 rfl rfl ?_
          refine gi_X1_34 hO dX1_readInto_83 (ShC.r3 hC).1 rfl ?_
          exact G_iret hO dX1_readInto_86 rfl rfl (QI.i h)
        · have h := h.2 c16
          refine G_aload_n hO dX1_readInto_38 rfl rfl ?_
          obtain ⟨c23, h⟩ := h
          obtain ⟨c24, h⟩ := h
          refine gd_X1_19 hO dX1_readInto_39 (ShC.r3 hC).1 rfl c23 ?_
          refine G_iload_n hO dX1_readInto_42 rfl rfl ?_
          refine G_callVv hO dX1_readInto_43 h cl_X1_40 c24.1 rfl rfl (Nat.le_of_ble_eq_true rfl) (fun w26 h => ?_) rfl
          refine G_aload_n hO dX1_readInto_46 rfl rfl ?_
          refine G_iconst (v := 4) hO dX1_readInto_47 rfl ?_
          refine G_iload_n hO dX1_readInto_48 rfl rfl ?_
          refine G_iadd hO dX1_readInto_49 ?_
          refine G_callVv hO dX1_readInto_50 h cl_X1_44 (ShC.r3 hC).1 rfl rfl (Nat.le_of_ble_eq_true rfl) (fun w28 h => ?_) rfl
          refine G_aload_n hO dX1_readInto_53 rfl rfl ?_
          refine G_callVv hO dX1_readInto_54 h cl_X1_47 (ShC.r3 hC).1 rfl rfl (Nat.le_of_ble_eq_true rfl) (fun w30 h => ?_) rfl
          refine G_aload_n hO dX1_readInto_57 rfl rfl ?_
          refine GG.atpc (pc2 := 58) rfl ?_
          refine G_bipush (v := 59) hO dX1_readInto_58 rfl ?_
          refine G_callVv hO dX1_readInto_60 h cl_X1_44 (ShC.r3 hC).1 rfl rfl (Nat.le_of_ble_eq_true rfl) (fun w32 h => ?_) rfl
          refine G_iinc (v := (l2 + 1)) (lv2 := [some (.ref (gad Γ 3)), none, some (.int (l2 + 1))]) hO dX1_readInto_63 rfl rfl (by decide) rfl rfl ?_
          refine G_goto (tgt := 33) hO dX1_readInto_66 (by decide) ?_
          exact GG.sub (lv2 := [some (.ref (gad Γ 3)), none, some (.int (l2 + 1))]) ⟨rfl, ⟨rfl, trivial⟩⟩ h)
  refine G_aload_n hO dX1_readInto_0 rfl rfl ?_
  refine G_aload_n hO dX1_readInto_1 rfl rfl ?_
  obtain ⟨c1, h⟩ := h
  refine pd_X1_19 (c := a1) hO dX1_readInto_2 (ShC.r3 hC).1 rfl c1 ?_
  refine GG.nmw (fun w2 e3 => ?_)
  have h := h w2 e3
  refine G_aload_n hO dX1_readInto_5 rfl rfl ?_
  obtain ⟨c4, h⟩ := h
  obtain ⟨c5, h⟩ := h
  refine gd_X1_19 hO dX1_readInto_6 (ShC.r3 hC).1 rfl c4 ?_
  refine G_callVv hO dX1_readInto_9 h cl_X1_23 c5.1 rfl rfl (Nat.le_of_ble_eq_true rfl) (fun w7 h => ?_) rfl
  refine G_aload_n hO dX1_readInto_12 rfl rfl ?_
  refine G_iconst (v := 0) hO dX1_readInto_13 rfl ?_
  refine pi_X1_28 hO dX1_readInto_14 (ShC.r3 hC).1 rfl ?_
  refine GG.nmw (fun w8 e9 => ?_)
  have h := h w8 e9
  refine G_aload_n hO dX1_readInto_17 rfl rfl ?_
  refine G_iconst (v := 0) hO dX1_readInto_18 rfl ?_
  refine pi_X1_31 hO dX1_readInto_19 (ShC.r3 hC).1 rfl ?_
  refine GG.nmw (fun w10 e11 => ?_)
  have h := h w10 e11
  refine GG.atpc (pc2 := 22) rfl ?_
  refine G_aload_n hO dX1_readInto_22 rfl rfl ?_
  refine G_iconst (v := -1) hO dX1_readInto_23 rfl ?_
  refine pi_X1_34 hO dX1_readInto_24 (ShC.r3 hC).1 rfl ?_
  refine GG.nmw (fun w12 e13 => ?_)
  have h := h w12 e13
  refine G_aload_n hO dX1_readInto_27 rfl rfl ?_
  refine G_callVv hO dX1_readInto_28 h cl_X1_37 (ShC.r3 hC).1 rfl rfl (Nat.le_of_ble_eq_true rfl) (fun w15 h => ?_) rfl
  refine G_iconst (v := 0) hO dX1_readInto_31 rfl ?_
  refine G_istore_n (lv2 := [some (.ref (gad Γ 3)), some (.ref (gad Γ a1)), some (.int (0 : Int32))]) hO dX1_readInto_32 rfl (by decide) rfl rfl ?_
  exact GG.sub (lv2 := [some (.ref (gad Γ 3)), none, some (.int (0 : Int32))]) ⟨rfl, ⟨rfl, trivial⟩⟩ h
def wp_X1_pass (Γ : Gx) (d : Nat) (p1 : Int32) (w : Wd) (Q : Wd → Prop) : Prop :=
  ((¬ (w 3 5) = p1 → CV Γ d M_X1_fail [.ref (gad Γ 3)] w (fun w3 => Q w3)) ∧ ((w 3 5) = p1 → CV Γ d M_X1_readToken [.ref (gad Γ 3)] w (fun w5 => Q w5)))
set_option maxRecDepth 20000 in
theorem con_X1_pass {Γ : Gx} {d : Nat} (hG : GC Γ) {p1 : Int32}  {w : Wd} {Q : Wd → Prop} (h : wp_X1_pass Γ d p1 w Q) : CV Γ (d + 1) M_X1_pass [.ref (gad Γ 3), .int p1] w Q := by
  have hC := hG.2.1
  refine Con.of RX1 cX1_pass 2 none [some (.ref (gad Γ 3)), some (.int p1)] rfl rfl (by decide +kernel) hG.1 (catR (catI cat0)) (Nat.le_of_ble_eq_true rfl) rfl ?_
  intro X hO
  refine G_aload_n hO dX1_pass_0 rfl rfl ?_
  refine gi_X1_50 hO dX1_pass_1 (ShC.r3 hC).1 rfl ?_
  refine G_iload_n hO dX1_pass_4 rfl rfl ?_
  refine G_icmp_ne (tgt := 15) hO dX1_pass_5 (by decide) (fun c1 => ?_) (fun c1 => ?_)
  · have h := h.1 c1
    refine G_aload_n hO dX1_pass_15 rfl rfl ?_
    refine G_callVv hO dX1_pass_16 h cl_X1_53 (ShC.r3 hC).1 rfl rfl (Nat.le_of_ble_eq_true rfl) (fun w3 h => ?_) rfl
    exact G_vret hO dX1_pass_19 rfl (QV.i h)
  · have h := h.2 c1
    refine G_aload_n hO dX1_pass_8 rfl rfl ?_
    refine G_callVv hO dX1_pass_9 h cl_X1_37 (ShC.r3 hC).1 rfl rfl (Nat.le_of_ble_eq_true rfl) (fun w5 h => ?_) rfl
    refine G_goto (tgt := 19) hO dX1_pass_12 (by decide) ?_
    exact G_vret hO dX1_pass_19 rfl (QV.i h)
def wp_X1_fail (Γ : Gx) (d : Nat)  (w : Wd) (Q : Wd → Prop) : Prop :=
  ((¬ (w 3 8) = (-1 : Int32) → (∀ w2 : Wd, w2 = wset w 3 5 (1 : Int32) → Q w2)) ∧ ((w 3 8) = (-1 : Int32) → (∀ w4 : Wd, w4 = wset w 3 8 (w 3 4) → (∀ w6 : Wd, w6 = wset w4 3 5 (1 : Int32) → Q w6))))
set_option maxRecDepth 20000 in
theorem con_X1_fail {Γ : Gx} {d : Nat} (hG : GC Γ)   {w : Wd} {Q : Wd → Prop} (h : wp_X1_fail Γ d  w Q) : CV Γ (d + 1) M_X1_fail [.ref (gad Γ 3)] w Q := by
  have hC := hG.2.1
  refine Con.of RX1 cX1_fail 1 none [some (.ref (gad Γ 3))] rfl rfl (by decide +kernel) hG.1 (catR cat0) (Nat.le_of_ble_eq_true rfl) rfl ?_
  intro X hO
  refine G_aload_n hO dX1_fail_0 rfl rfl ?_
  refine gi_X1_34 hO dX1_fail_1 (ShC.r3 hC).1 rfl ?_
  refine G_iconst (v := -1) hO dX1_fail_4 rfl ?_
  refine G_icmp_ne (tgt := 16) hO dX1_fail_5 (by decide) (fun c1 => ?_) (fun c1 => ?_)
  · have h := h.1 c1
    refine G_aload_n hO dX1_fail_16 rfl rfl ?_
    refine G_iconst (v := 1) hO dX1_fail_17 rfl ?_
    refine pi_X1_50 hO dX1_fail_18 (ShC.r3 hC).1 rfl ?_
    refine GG.nmw (fun w2 e3 => ?_)
    have h := h w2 e3
    exact G_vret hO dX1_fail_21 rfl (QV.i h)
  · have h := h.2 c1
    refine G_aload_n hO dX1_fail_8 rfl rfl ?_
    refine G_aload_n hO dX1_fail_9 rfl rfl ?_
    refine gi_X1_56 hO dX1_fail_10 (ShC.r3 hC).1 rfl ?_
    refine pi_X1_34 hO dX1_fail_13 (ShC.r3 hC).1 rfl ?_
    refine GG.nmw (fun w4 e5 => ?_)
    have h := h w4 e5
    refine G_aload_n hO dX1_fail_16 rfl rfl ?_
    refine G_iconst (v := 1) hO dX1_fail_17 rfl ?_
    refine pi_X1_50 hO dX1_fail_18 (ShC.r3 hC).1 rfl ?_
    refine GG.nmw (fun w6 e7 => ?_)
    have h := h w6 e7
    exact G_vret hO dX1_fail_21 rfl (QV.i h)
def wp_X1_readOr (Γ : Gx) (d : Nat)  (w : Wd) (Q : Wd → Prop) : Prop :=
  ∀ (P_6 : Int32 → Wd → Prop),
  (∀ (l1 : Int32) (w : Wd), (((160 : Int32) ≤ l1 → Q w) ∧ (¬ (160 : Int32) ≤ l1 → ((¬ (w 3 5) = (7 : Int32) → Q w) ∧ ((w 3 5) = (7 : Int32) → CV Γ d M_X1_readToken [.ref (gad Γ 3)] w (fun w6 => CV Γ d M_X1_readAnd [.ref (gad Γ 3)] w6 (fun w8 => (¬ w8 3 2 = -1 ∧ (ShT Γ (w8 3 2).toNatClampNeg ∧ CV Γ d M_X3_takeStep [.ref (gad Γ ((w8 3 2).toNatClampNeg)), .int (-9 : Int32)] w8 (fun w12 => P_6 (l1 + 1) w12))))))))) → P_6 l1 w) →
  CV Γ d M_X1_readAnd [.ref (gad Γ 3)] w (fun w2 => P_6 (0 : Int32) w2)
set_option maxRecDepth 20000 in
theorem con_X1_readOr {Γ : Gx} {d : Nat} (hG : GC Γ)   {w : Wd} {Q : Wd → Prop} (h : wp_X1_readOr Γ d  w Q) : CV Γ (d + 1) M_X1_readOr [.ref (gad Γ 3)] w Q := by
  have hC := hG.2.1
  refine Con.of RX1 cX1_readOr 2 none [some (.ref (gad Γ 3)), none] rfl rfl (by decide +kernel) hG.1 (catR cat0) (Nat.le_of_ble_eq_true rfl) rfl ?_
  intro X hO
  have h := h
    (fun (l1 : Int32) (w : Wd) => GG Γ X (d + 1) 2 (QV Q) 6 [some (.ref (gad Γ 3)), some (.int l1)] [] w)
    (by
        intro l1 w h
        refine G_iload_n hO dX1_readOr_6 rfl rfl ?_
        refine G_sipush (v := 160) hO dX1_readOr_7 rfl ?_
        refine G_icmp_ge (tgt := 45) hO dX1_readOr_10 (by decide) (fun c3 => ?_) (fun c3 => ?_)
        · have h := h.1 c3
          exact G_vret hO dX1_readOr_45 rfl (QV.i h)
        · have h := h.2 c3
          refine G_aload_n hO dX1_readOr_13 rfl rfl ?_
          refine gi_X1_50 hO dX1_readOr_14 (ShC.r3 hC).1 rfl ?_
          refine G_bipush (v := 7) hO dX1_readOr_17 rfl ?_
          refine G_icmp_ne (tgt := 45) hO dX1_readOr_19 (by decide) (fun c4 => ?_) (fun c4 => ?_)
          · have h := h.1 c4
            exact G_vret hO dX1_readOr_45 rfl (QV.i h)
          · have h := h.2 c4
            refine G_aload_n hO dX1_readOr_22 rfl rfl ?_
            refine G_callVv hO dX1_readOr_23 h cl_X1_37 (ShC.r3 hC).1 rfl rfl (Nat.le_of_ble_eq_true rfl) (fun w6 h => ?_) rfl
            refine G_aload_n hO dX1_readOr_26 rfl rfl ?_
            refine G_callVv hO dX1_readOr_27 h cl_X1_59 (ShC.r3 hC).1 rfl rfl (Nat.le_of_ble_eq_true rfl) (fun w8 h => ?_) rfl
            refine G_aload_n hO dX1_readOr_30 rfl rfl ?_
            obtain ⟨c9, h⟩ := h
            obtain ⟨c10, h⟩ := h
            refine gd_X1_19 hO dX1_readOr_31 (ShC.r3 hC).1 rfl c9 ?_
            refine G_bipush (v := -9) hO dX1_readOr_34 rfl ?_
            refine G_callVv hO dX1_readOr_36 h cl_X1_62 c10.1 rfl rfl (Nat.le_of_ble_eq_true rfl) (fun w12 h => ?_) rfl
            refine G_iinc (v := (l1 + 1)) (lv2 := [some (.ref (gad Γ 3)), some (.int (l1 + 1))]) hO dX1_readOr_39 rfl rfl (by decide) rfl rfl ?_
            refine G_goto (tgt := 6) hO dX1_readOr_42 (by decide) ?_
            exact GG.sub (lv2 := [some (.ref (gad Γ 3)), some (.int (l1 + 1))]) ⟨rfl, ⟨rfl, trivial⟩⟩ h)
  refine G_aload_n hO dX1_readOr_0 rfl rfl ?_
  refine G_callVv hO dX1_readOr_1 h cl_X1_59 (ShC.r3 hC).1 rfl rfl (Nat.le_of_ble_eq_true rfl) (fun w2 h => ?_) rfl
  refine G_iconst (v := 0) hO dX1_readOr_4 rfl ?_
  refine G_istore_n (lv2 := [some (.ref (gad Γ 3)), some (.int (0 : Int32))]) hO dX1_readOr_5 rfl (by decide) rfl rfl ?_
  exact GG.sub (lv2 := [some (.ref (gad Γ 3)), some (.int (0 : Int32))]) ⟨rfl, ⟨rfl, trivial⟩⟩ h
def wp_X1_readAnd (Γ : Gx) (d : Nat)  (w : Wd) (Q : Wd → Prop) : Prop :=
  ∀ (P_6 : Int32 → Wd → Prop),
  (∀ (l1 : Int32) (w : Wd), (((160 : Int32) ≤ l1 → Q w) ∧ (¬ (160 : Int32) ≤ l1 → ((¬ (w 3 5) = (8 : Int32) → Q w) ∧ ((w 3 5) = (8 : Int32) → CV Γ d M_X1_readToken [.ref (gad Γ 3)] w (fun w6 => CV Γ d M_X1_readNot [.ref (gad Γ 3)] w6 (fun w8 => (¬ w8 3 2 = -1 ∧ (ShT Γ (w8 3 2).toNatClampNeg ∧ CV Γ d M_X3_takeStep [.ref (gad Γ ((w8 3 2).toNatClampNeg)), .int (-10 : Int32)] w8 (fun w12 => P_6 (l1 + 1) w12))))))))) → P_6 l1 w) →
  CV Γ d M_X1_readNot [.ref (gad Γ 3)] w (fun w2 => P_6 (0 : Int32) w2)
set_option maxRecDepth 20000 in
theorem con_X1_readAnd {Γ : Gx} {d : Nat} (hG : GC Γ)   {w : Wd} {Q : Wd → Prop} (h : wp_X1_readAnd Γ d  w Q) : CV Γ (d + 1) M_X1_readAnd [.ref (gad Γ 3)] w Q := by
  have hC := hG.2.1
  refine Con.of RX1 cX1_readAnd 2 none [some (.ref (gad Γ 3)), none] rfl rfl (by decide +kernel) hG.1 (catR cat0) (Nat.le_of_ble_eq_true rfl) rfl ?_
  intro X hO
  have h := h
    (fun (l1 : Int32) (w : Wd) => GG Γ X (d + 1) 2 (QV Q) 6 [some (.ref (gad Γ 3)), some (.int l1)] [] w)
    (by
        intro l1 w h
        refine G_iload_n hO dX1_readAnd_6 rfl rfl ?_
        refine G_sipush (v := 160) hO dX1_readAnd_7 rfl ?_
        refine G_icmp_ge (tgt := 45) hO dX1_readAnd_10 (by decide) (fun c3 => ?_) (fun c3 => ?_)
        · have h := h.1 c3
          exact G_vret hO dX1_readAnd_45 rfl (QV.i h)
        · have h := h.2 c3
          refine G_aload_n hO dX1_readAnd_13 rfl rfl ?_
          refine gi_X1_50 hO dX1_readAnd_14 (ShC.r3 hC).1 rfl ?_
          refine G_bipush (v := 8) hO dX1_readAnd_17 rfl ?_
          refine G_icmp_ne (tgt := 45) hO dX1_readAnd_19 (by decide) (fun c4 => ?_) (fun c4 => ?_)
          · have h := h.1 c4
            exact G_vret hO dX1_readAnd_45 rfl (QV.i h)
          · have h := h.2 c4
            refine G_aload_n hO dX1_readAnd_22 rfl rfl ?_
            refine G_callVv hO dX1_readAnd_23 h cl_X1_37 (ShC.r3 hC).1 rfl rfl (Nat.le_of_ble_eq_true rfl) (fun w6 h => ?_) rfl
            refine G_aload_n hO dX1_readAnd_26 rfl rfl ?_
            refine G_callVv hO dX1_readAnd_27 h cl_X1_65 (ShC.r3 hC).1 rfl rfl (Nat.le_of_ble_eq_true rfl) (fun w8 h => ?_) rfl
            refine G_aload_n hO dX1_readAnd_30 rfl rfl ?_
            obtain ⟨c9, h⟩ := h
            obtain ⟨c10, h⟩ := h
            refine gd_X1_19 hO dX1_readAnd_31 (ShC.r3 hC).1 rfl c9 ?_
            refine G_bipush (v := -10) hO dX1_readAnd_34 rfl ?_
            refine G_callVv hO dX1_readAnd_36 h cl_X1_62 c10.1 rfl rfl (Nat.le_of_ble_eq_true rfl) (fun w12 h => ?_) rfl
            refine G_iinc (v := (l1 + 1)) (lv2 := [some (.ref (gad Γ 3)), some (.int (l1 + 1))]) hO dX1_readAnd_39 rfl rfl (by decide) rfl rfl ?_
            refine G_goto (tgt := 6) hO dX1_readAnd_42 (by decide) ?_
            exact GG.sub (lv2 := [some (.ref (gad Γ 3)), some (.int (l1 + 1))]) ⟨rfl, ⟨rfl, trivial⟩⟩ h)
  refine G_aload_n hO dX1_readAnd_0 rfl rfl ?_
  refine G_callVv hO dX1_readAnd_1 h cl_X1_65 (ShC.r3 hC).1 rfl rfl (Nat.le_of_ble_eq_true rfl) (fun w2 h => ?_) rfl
  refine G_iconst (v := 0) hO dX1_readAnd_4 rfl ?_
  refine G_istore_n (lv2 := [some (.ref (gad Γ 3)), some (.int (0 : Int32))]) hO dX1_readAnd_5 rfl (by decide) rfl rfl ?_
  exact GG.sub (lv2 := [some (.ref (gad Γ 3)), some (.int (0 : Int32))]) ⟨rfl, ⟨rfl, trivial⟩⟩ h
def wp_X1_readNot (Γ : Gx) (d : Nat)  (w : Wd) (Q : Wd → Prop) : Prop :=
  (((w 3 5) = (9 : Int32) → CI Γ d M_X1_opens [.ref (gad Γ 3)] w (fun r2 w3 => ((r2 = 0 → Q w3) ∧ (¬ r2 = 0 → CV Γ d M_X1_readNot [.ref (gad Γ 3)] w3 (fun w6 => (¬ w6 3 2 = -1 ∧ (ShT Γ (w6 3 2).toNatClampNeg ∧ CV Γ d M_X3_takeStep [.ref (gad Γ ((w6 3 2).toNatClampNeg)), .int (-7 : Int32)] w6 (fun w10 => (∀ w11 : Wd, w11 = wset w10 3 7 ((w10 3 7) - (1 : Int32)) → Q w11))))))))) ∧ (¬ (w 3 5) = (9 : Int32) → CV Γ d M_X1_readCompared [.ref (gad Γ 3)] w (fun w14 => Q w14)))
set_option maxRecDepth 20000 in
theorem con_X1_readNot {Γ : Gx} {d : Nat} (hG : GC Γ)   {w : Wd} {Q : Wd → Prop} (h : wp_X1_readNot Γ d  w Q) : CV Γ (d + 1) M_X1_readNot [.ref (gad Γ 3)] w Q := by
  have hC := hG.2.1
  refine Con.of RX1 cX1_readNot 1 none [some (.ref (gad Γ 3))] rfl rfl (by decide +kernel) hG.1 (catR cat0) (Nat.le_of_ble_eq_true rfl) rfl ?_
  intro X hO
  refine G_aload_n hO dX1_readNot_0 rfl rfl ?_
  refine gi_X1_50 hO dX1_readNot_1 (ShC.r3 hC).1 rfl ?_
  refine G_bipush (v := 9) hO dX1_readNot_4 rfl ?_
  refine G_icmp_eq (tgt := 16) hO dX1_readNot_6 (by decide) (fun c1 => ?_) (fun c1 => ?_)
  · have h := h.1 c1
    refine G_aload_n hO dX1_readNot_16 rfl rfl ?_
    refine G_callVi hO dX1_readNot_17 h cl_X1_71 (ShC.r3 hC).1 rfl rfl (Nat.le_of_ble_eq_true rfl) (fun r2 w3 h => ?_) rfl
    refine G_if_eq (tgt := 46) hO dX1_readNot_20 (by decide) (fun c4 => ?_) (fun c4 => ?_)
    · have h := h.1 c4
      exact G_vret hO dX1_readNot_46 rfl (QV.i h)
    · have h := h.2 c4
      refine G_aload_n hO dX1_readNot_23 rfl rfl ?_
      refine G_callVv hO dX1_readNot_24 h cl_X1_65 (ShC.r3 hC).1 rfl rfl (Nat.le_of_ble_eq_true rfl) (fun w6 h => ?_) rfl
      refine G_aload_n hO dX1_readNot_27 rfl rfl ?_
      obtain ⟨c7, h⟩ := h
      obtain ⟨c8, h⟩ := h
      refine gd_X1_19 hO dX1_readNot_28 (ShC.r3 hC).1 rfl c7 ?_
      refine G_bipush (v := -7) hO dX1_readNot_31 rfl ?_
      refine G_callVv hO dX1_readNot_33 h cl_X1_62 c8.1 rfl rfl (Nat.le_of_ble_eq_true rfl) (fun w10 h => ?_) rfl
      refine G_aload_n hO dX1_readNot_36 rfl rfl ?_
      refine G_dup hO dX1_readNot_37 rfl ?_
      refine gi_X1_31 hO dX1_readNot_38 (ShC.r3 hC).1 rfl ?_
      refine G_iconst (v := 1) hO dX1_readNot_41 rfl ?_
      refine G_isub hO dX1_readNot_42 ?_
      refine pi_X1_31 hO dX1_readNot_43 (ShC.r3 hC).1 rfl ?_
      refine GG.nmw (fun w11 e12 => ?_)
      have h := h w11 e12
      refine GG.atpc (pc2 := 46) rfl ?_
      exact G_vret hO dX1_readNot_46 rfl (QV.i h)
  · have h := h.2 c1
    refine G_aload_n hO dX1_readNot_9 rfl rfl ?_
    refine G_callVv hO dX1_readNot_10 h cl_X1_68 (ShC.r3 hC).1 rfl rfl (Nat.le_of_ble_eq_true rfl) (fun w14 h => ?_) rfl
    refine G_goto (tgt := 46) hO dX1_readNot_13 (by decide) ?_
    exact G_vret hO dX1_readNot_46 rfl (QV.i h)
def wp_X1_readCompared (Γ : Gx) (d : Nat)  (w : Wd) (Q : Wd → Prop) : Prop :=
  ∀ (P_22 : Wd → Prop),
  (∀ (w : Wd), ((¬ (w 3 5) = (60 : Int32) → CV Γ d M_X1_readToken [.ref (gad Γ 3)] w (fun w7 => CV Γ d M_X1_readSum [.ref (gad Γ 3)] w7 (fun w9 => (¬ w9 3 2 = -1 ∧ (ShT Γ (w9 3 2).toNatClampNeg ∧ CV Γ d M_X3_takeStep [.ref (gad Γ ((w9 3 2).toNatClampNeg)), .int (-12 : Int32)] w9 (fun w13 => Q w13)))))) ∧ ((w 3 5) = (60 : Int32) → CV Γ d M_X1_readToken [.ref (gad Γ 3)] w (fun w15 => CV Γ d M_X1_readSum [.ref (gad Γ 3)] w15 (fun w17 => (¬ w17 3 2 = -1 ∧ (ShT Γ (w17 3 2).toNatClampNeg ∧ CV Γ d M_X3_takeStep [.ref (gad Γ ((w17 3 2).toNatClampNeg)), .int (-11 : Int32)] w17 (fun w21 => Q w21))))))) → P_22 w) →
  CV Γ d M_X1_readSum [.ref (gad Γ 3)] w (fun w2 => (((w2 3 5) = (60 : Int32) → P_22 w2) ∧ (¬ (w2 3 5) = (60 : Int32) → ((¬ (w2 3 5) = (61 : Int32) → Q w2) ∧ ((w2 3 5) = (61 : Int32) → P_22 w2)))))
set_option maxRecDepth 20000 in
theorem con_X1_readCompared {Γ : Gx} {d : Nat} (hG : GC Γ)   {w : Wd} {Q : Wd → Prop} (h : wp_X1_readCompared Γ d  w Q) : CV Γ (d + 1) M_X1_readCompared [.ref (gad Γ 3)] w Q := by
  have hC := hG.2.1
  refine Con.of RX1 cX1_readCompared 2 none [some (.ref (gad Γ 3)), none] rfl rfl (by decide +kernel) hG.1 (catR cat0) (Nat.le_of_ble_eq_true rfl) rfl ?_
  intro X hO
  have h := h
    (fun (w : Wd) => GG Γ X (d + 1) 2 (QV Q) 22 [some (.ref (gad Γ 3)), none] [] w)
    (by
        intro w h
        refine G_aload_n hO dX1_readCompared_22 rfl rfl ?_
        refine gi_X1_50 hO dX1_readCompared_23 (ShC.r3 hC).1 rfl ?_
        refine G_bipush (v := 60) hO dX1_readCompared_26 rfl ?_
        refine G_icmp_ne (tgt := 36) hO dX1_readCompared_28 (by decide) (fun c5 => ?_) (fun c5 => ?_)
        · have h := h.1 c5
          refine G_bipush (v := -12) hO dX1_readCompared_36 rfl ?_
          refine G_istore_n (lv2 := [some (.ref (gad Γ 3)), some (.int (-12 : Int32))]) hO dX1_readCompared_38 rfl (by decide) rfl rfl ?_
          refine G_aload_n hO dX1_readCompared_39 rfl rfl ?_
          refine G_callVv hO dX1_readCompared_40 h cl_X1_37 (ShC.r3 hC).1 rfl rfl (Nat.le_of_ble_eq_true rfl) (fun w7 h => ?_) rfl
          refine G_aload_n hO dX1_readCompared_43 rfl rfl ?_
          refine G_callVv hO dX1_readCompared_44 h cl_X1_75 (ShC.r3 hC).1 rfl rfl (Nat.le_of_ble_eq_true rfl) (fun w9 h => ?_) rfl
          refine G_aload_n hO dX1_readCompared_47 rfl rfl ?_
          obtain ⟨c10, h⟩ := h
          obtain ⟨c11, h⟩ := h
          refine gd_X1_19 hO dX1_readCompared_48 (ShC.r3 hC).1 rfl c10 ?_
          refine G_iload_n hO dX1_readCompared_51 rfl rfl ?_
          refine G_callVv hO dX1_readCompared_52 h cl_X1_62 c11.1 rfl rfl (Nat.le_of_ble_eq_true rfl) (fun w13 h => ?_) rfl
          exact G_vret hO dX1_readCompared_55 rfl (QV.i h)
        · have h := h.2 c5
          refine G_bipush (v := -11) hO dX1_readCompared_31 rfl ?_
          refine G_goto (tgt := 38) hO dX1_readCompared_33 (by decide) ?_
          refine G_istore_n (lv2 := [some (.ref (gad Γ 3)), some (.int (-11 : Int32))]) hO dX1_readCompared_38 rfl (by decide) rfl rfl ?_
          refine G_aload_n hO dX1_readCompared_39 rfl rfl ?_
          refine G_callVv hO dX1_readCompared_40 h cl_X1_37 (ShC.r3 hC).1 rfl rfl (Nat.le_of_ble_eq_true rfl) (fun w15 h => ?_) rfl
          refine G_aload_n hO dX1_readCompared_43 rfl rfl ?_
          refine G_callVv hO dX1_readCompared_44 h cl_X1_75 (ShC.r3 hC).1 rfl rfl (Nat.le_of_ble_eq_true rfl) (fun w17 h => ?_) rfl
          refine G_aload_n hO dX1_readCompared_47 rfl rfl ?_
          obtain ⟨c18, h⟩ := h
          obtain ⟨c19, h⟩ := h
          refine gd_X1_19 hO dX1_readCompared_48 (ShC.r3 hC).1 rfl c18 ?_
          refine G_iload_n hO dX1_readCompared_51 rfl rfl ?_
          refine G_callVv hO dX1_readCompared_52 h cl_X1_62 c19.1 rfl rfl (Nat.le_of_ble_eq_true rfl) (fun w21 h => ?_) rfl
          exact G_vret hO dX1_readCompared_55 rfl (QV.i h))
  refine G_aload_n hO dX1_readCompared_0 rfl rfl ?_
  refine G_callVv hO dX1_readCompared_1 h cl_X1_75 (ShC.r3 hC).1 rfl rfl (Nat.le_of_ble_eq_true rfl) (fun w2 h => ?_) rfl
  refine G_aload_n hO dX1_readCompared_4 rfl rfl ?_
  refine gi_X1_50 hO dX1_readCompared_5 (ShC.r3 hC).1 rfl ?_
  refine G_bipush (v := 60) hO dX1_readCompared_8 rfl ?_
  refine G_icmp_eq (tgt := 22) hO dX1_readCompared_10 (by decide) (fun c3 => ?_) (fun c3 => ?_)
  · have h := h.1 c3
    exact GG.sub (lv2 := [some (.ref (gad Γ 3)), none]) ⟨rfl, trivial⟩ h
  · have h := h.2 c3
    refine G_aload_n hO dX1_readCompared_13 rfl rfl ?_
    refine gi_X1_50 hO dX1_readCompared_14 (ShC.r3 hC).1 rfl ?_
    refine G_bipush (v := 61) hO dX1_readCompared_17 rfl ?_
    refine G_icmp_ne (tgt := 55) hO dX1_readCompared_19 (by decide) (fun c4 => ?_) (fun c4 => ?_)
    · have h := h.1 c4
      exact G_vret hO dX1_readCompared_55 rfl (QV.i h)
    · have h := h.2 c4
      exact GG.sub (lv2 := [some (.ref (gad Γ 3)), none]) ⟨rfl, trivial⟩ h
def wp_X1_readSum (Γ : Gx) (d : Nat)  (w : Wd) (Q : Wd → Prop) : Prop :=
  ∀ (P_6 : Int32 → Wd → Prop),
  ∀ (P_31 : Int32 → Wd → Prop),
  (∀ (l1 : Int32) (w : Wd), (((160 : Int32) ≤ l1 → Q w) ∧ (¬ (160 : Int32) ≤ l1 → (((w 3 5) = (43 : Int32) → P_31 l1 w) ∧ (¬ (w 3 5) = (43 : Int32) → ((¬ (w 3 5) = (45 : Int32) → Q w) ∧ ((w 3 5) = (45 : Int32) → P_31 l1 w)))))) → P_6 l1 w) →
  (∀ (l1 : Int32) (w : Wd), ((¬ (w 3 5) = (43 : Int32) → CV Γ d M_X1_readToken [.ref (gad Γ 3)] w (fun w8 => CV Γ d M_X1_readTerm [.ref (gad Γ 3)] w8 (fun w10 => (¬ w10 3 2 = -1 ∧ (ShT Γ (w10 3 2).toNatClampNeg ∧ CV Γ d M_X3_takeStep [.ref (gad Γ ((w10 3 2).toNatClampNeg)), .int (-14 : Int32)] w10 (fun w14 => P_6 (l1 + 1) w14)))))) ∧ ((w 3 5) = (43 : Int32) → CV Γ d M_X1_readToken [.ref (gad Γ 3)] w (fun w16 => CV Γ d M_X1_readTerm [.ref (gad Γ 3)] w16 (fun w18 => (¬ w18 3 2 = -1 ∧ (ShT Γ (w18 3 2).toNatClampNeg ∧ CV Γ d M_X3_takeStep [.ref (gad Γ ((w18 3 2).toNatClampNeg)), .int (-13 : Int32)] w18 (fun w22 => P_6 (l1 + 1) w22))))))) → P_31 l1 w) →
  CV Γ d M_X1_readTerm [.ref (gad Γ 3)] w (fun w2 => P_6 (0 : Int32) w2)
set_option maxRecDepth 20000 in
theorem con_X1_readSum {Γ : Gx} {d : Nat} (hG : GC Γ)   {w : Wd} {Q : Wd → Prop} (h : wp_X1_readSum Γ d  w Q) : CV Γ (d + 1) M_X1_readSum [.ref (gad Γ 3)] w Q := by
  have hC := hG.2.1
  refine Con.of RX1 cX1_readSum 3 none [some (.ref (gad Γ 3)), none, none] rfl rfl (by decide +kernel) hG.1 (catR cat0) (Nat.le_of_ble_eq_true rfl) rfl ?_
  intro X hO
  have h := h
    (fun (l1 : Int32) (w : Wd) => GG Γ X (d + 1) 3 (QV Q) 6 [some (.ref (gad Γ 3)), some (.int l1), none] [] w)
    (fun (l1 : Int32) (w : Wd) => GG Γ X (d + 1) 3 (QV Q) 31 [some (.ref (gad Γ 3)), some (.int l1), none] [] w)
    (by
        intro l1 w h
        refine G_iload_n hO dX1_readSum_6 rfl rfl ?_
        refine G_sipush (v := 160) hO dX1_readSum_7 rfl ?_
        refine G_icmp_ge (tgt := 70) hO dX1_readSum_10 (by decide) (fun c3 => ?_) (fun c3 => ?_)
        · have h := h.1 c3
          exact G_vret hO dX1_readSum_70 rfl (QV.i h)
        · have h := h.2 c3
          refine G_aload_n hO dX1_readSum_13 rfl rfl ?_
          refine gi_X1_50 hO dX1_readSum_14 (ShC.r3 hC).1 rfl ?_
          refine G_bipush (v := 43) hO dX1_readSum_17 rfl ?_
          refine G_icmp_eq (tgt := 31) hO dX1_readSum_19 (by decide) (fun c4 => ?_) (fun c4 => ?_)
          · have h := h.1 c4
            exact GG.sub (lv2 := [some (.ref (gad Γ 3)), some (.int l1), none]) ⟨rfl, ⟨rfl, trivial⟩⟩ h
          · have h := h.2 c4
            refine G_aload_n hO dX1_readSum_22 rfl rfl ?_
            refine gi_X1_50 hO dX1_readSum_23 (ShC.r3 hC).1 rfl ?_
            refine G_bipush (v := 45) hO dX1_readSum_26 rfl ?_
            refine G_icmp_ne (tgt := 70) hO dX1_readSum_28 (by decide) (fun c5 => ?_) (fun c5 => ?_)
            · have h := h.1 c5
              exact G_vret hO dX1_readSum_70 rfl (QV.i h)
            · have h := h.2 c5
              exact GG.sub (lv2 := [some (.ref (gad Γ 3)), some (.int l1), none]) ⟨rfl, ⟨rfl, trivial⟩⟩ h)
    (by
        intro l1 w h
        refine G_aload_n hO dX1_readSum_31 rfl rfl ?_
        refine gi_X1_50 hO dX1_readSum_32 (ShC.r3 hC).1 rfl ?_
        refine G_bipush (v := 43) hO dX1_readSum_35 rfl ?_
        refine G_icmp_ne (tgt := 45) hO dX1_readSum_37 (by decide) (fun c6 => ?_) (fun c6 => ?_)
        · have h := h.1 c6
          refine G_bipush (v := -14) hO dX1_readSum_45 rfl ?_
          refine G_istore_n (lv2 := [some (.ref (gad Γ 3)), some (.int l1), some (.int (-14 : Int32))]) hO dX1_readSum_47 rfl (by decide) rfl rfl ?_
          refine G_aload_n hO dX1_readSum_48 rfl rfl ?_
          refine G_callVv hO dX1_readSum_49 h cl_X1_37 (ShC.r3 hC).1 rfl rfl (Nat.le_of_ble_eq_true rfl) (fun w8 h => ?_) rfl
          refine G_aload_n hO dX1_readSum_52 rfl rfl ?_
          refine G_callVv hO dX1_readSum_53 h cl_X1_78 (ShC.r3 hC).1 rfl rfl (Nat.le_of_ble_eq_true rfl) (fun w10 h => ?_) rfl
          refine G_aload_n hO dX1_readSum_56 rfl rfl ?_
          obtain ⟨c11, h⟩ := h
          obtain ⟨c12, h⟩ := h
          refine gd_X1_19 hO dX1_readSum_57 (ShC.r3 hC).1 rfl c11 ?_
          refine G_iload_n hO dX1_readSum_60 rfl rfl ?_
          refine G_callVv hO dX1_readSum_61 h cl_X1_62 c12.1 rfl rfl (Nat.le_of_ble_eq_true rfl) (fun w14 h => ?_) rfl
          refine G_iinc (v := (l1 + 1)) (lv2 := [some (.ref (gad Γ 3)), some (.int (l1 + 1)), some (.int (-14 : Int32))]) hO dX1_readSum_64 rfl rfl (by decide) rfl rfl ?_
          refine G_goto (tgt := 6) hO dX1_readSum_67 (by decide) ?_
          exact GG.sub (lv2 := [some (.ref (gad Γ 3)), some (.int (l1 + 1)), none]) ⟨rfl, ⟨rfl, trivial⟩⟩ h
        · have h := h.2 c6
          refine G_bipush (v := -13) hO dX1_readSum_40 rfl ?_
          refine G_goto (tgt := 47) hO dX1_readSum_42 (by decide) ?_
          refine G_istore_n (lv2 := [some (.ref (gad Γ 3)), some (.int l1), some (.int (-13 : Int32))]) hO dX1_readSum_47 rfl (by decide) rfl rfl ?_
          refine G_aload_n hO dX1_readSum_48 rfl rfl ?_
          refine G_callVv hO dX1_readSum_49 h cl_X1_37 (ShC.r3 hC).1 rfl rfl (Nat.le_of_ble_eq_true rfl) (fun w16 h => ?_) rfl
          refine G_aload_n hO dX1_readSum_52 rfl rfl ?_
          refine G_callVv hO dX1_readSum_53 h cl_X1_78 (ShC.r3 hC).1 rfl rfl (Nat.le_of_ble_eq_true rfl) (fun w18 h => ?_) rfl
          refine G_aload_n hO dX1_readSum_56 rfl rfl ?_
          obtain ⟨c19, h⟩ := h
          obtain ⟨c20, h⟩ := h
          refine gd_X1_19 hO dX1_readSum_57 (ShC.r3 hC).1 rfl c19 ?_
          refine G_iload_n hO dX1_readSum_60 rfl rfl ?_
          refine G_callVv hO dX1_readSum_61 h cl_X1_62 c20.1 rfl rfl (Nat.le_of_ble_eq_true rfl) (fun w22 h => ?_) rfl
          refine G_iinc (v := (l1 + 1)) (lv2 := [some (.ref (gad Γ 3)), some (.int (l1 + 1)), some (.int (-13 : Int32))]) hO dX1_readSum_64 rfl rfl (by decide) rfl rfl ?_
          refine G_goto (tgt := 6) hO dX1_readSum_67 (by decide) ?_
          exact GG.sub (lv2 := [some (.ref (gad Γ 3)), some (.int (l1 + 1)), none]) ⟨rfl, ⟨rfl, trivial⟩⟩ h)
  refine G_aload_n hO dX1_readSum_0 rfl rfl ?_
  refine G_callVv hO dX1_readSum_1 h cl_X1_78 (ShC.r3 hC).1 rfl rfl (Nat.le_of_ble_eq_true rfl) (fun w2 h => ?_) rfl
  refine G_iconst (v := 0) hO dX1_readSum_4 rfl ?_
  refine G_istore_n (lv2 := [some (.ref (gad Γ 3)), some (.int (0 : Int32)), none]) hO dX1_readSum_5 rfl (by decide) rfl rfl ?_
  exact GG.sub (lv2 := [some (.ref (gad Γ 3)), some (.int (0 : Int32)), none]) ⟨rfl, ⟨rfl, trivial⟩⟩ h
def wp_X1_readTerm (Γ : Gx) (d : Nat)  (w : Wd) (Q : Wd → Prop) : Prop :=
  ∀ (P_6 : Int32 → Wd → Prop),
  (∀ (l1 : Int32) (w : Wd), (((160 : Int32) ≤ l1 → Q w) ∧ (¬ (160 : Int32) ≤ l1 → ((¬ (w 3 5) = (42 : Int32) → Q w) ∧ ((w 3 5) = (42 : Int32) → CV Γ d M_X1_readToken [.ref (gad Γ 3)] w (fun w6 => CV Γ d M_X1_readOne [.ref (gad Γ 3)] w6 (fun w8 => (¬ w8 3 2 = -1 ∧ (ShT Γ (w8 3 2).toNatClampNeg ∧ CV Γ d M_X3_takeStep [.ref (gad Γ ((w8 3 2).toNatClampNeg)), .int (-15 : Int32)] w8 (fun w12 => P_6 (l1 + 1) w12))))))))) → P_6 l1 w) →
  CV Γ d M_X1_readOne [.ref (gad Γ 3)] w (fun w2 => P_6 (0 : Int32) w2)
set_option maxRecDepth 20000 in
theorem con_X1_readTerm {Γ : Gx} {d : Nat} (hG : GC Γ)   {w : Wd} {Q : Wd → Prop} (h : wp_X1_readTerm Γ d  w Q) : CV Γ (d + 1) M_X1_readTerm [.ref (gad Γ 3)] w Q := by
  have hC := hG.2.1
  refine Con.of RX1 cX1_readTerm 2 none [some (.ref (gad Γ 3)), none] rfl rfl (by decide +kernel) hG.1 (catR cat0) (Nat.le_of_ble_eq_true rfl) rfl ?_
  intro X hO
  have h := h
    (fun (l1 : Int32) (w : Wd) => GG Γ X (d + 1) 2 (QV Q) 6 [some (.ref (gad Γ 3)), some (.int l1)] [] w)
    (by
        intro l1 w h
        refine G_iload_n hO dX1_readTerm_6 rfl rfl ?_
        refine G_sipush (v := 160) hO dX1_readTerm_7 rfl ?_
        refine G_icmp_ge (tgt := 45) hO dX1_readTerm_10 (by decide) (fun c3 => ?_) (fun c3 => ?_)
        · have h := h.1 c3
          exact G_vret hO dX1_readTerm_45 rfl (QV.i h)
        · have h := h.2 c3
          refine G_aload_n hO dX1_readTerm_13 rfl rfl ?_
          refine gi_X1_50 hO dX1_readTerm_14 (ShC.r3 hC).1 rfl ?_
          refine G_bipush (v := 42) hO dX1_readTerm_17 rfl ?_
          refine G_icmp_ne (tgt := 45) hO dX1_readTerm_19 (by decide) (fun c4 => ?_) (fun c4 => ?_)
          · have h := h.1 c4
            exact G_vret hO dX1_readTerm_45 rfl (QV.i h)
          · have h := h.2 c4
            refine G_aload_n hO dX1_readTerm_22 rfl rfl ?_
            refine G_callVv hO dX1_readTerm_23 h cl_X1_37 (ShC.r3 hC).1 rfl rfl (Nat.le_of_ble_eq_true rfl) (fun w6 h => ?_) rfl
            refine G_aload_n hO dX1_readTerm_26 rfl rfl ?_
            refine G_callVv hO dX1_readTerm_27 h cl_X1_81 (ShC.r3 hC).1 rfl rfl (Nat.le_of_ble_eq_true rfl) (fun w8 h => ?_) rfl
            refine G_aload_n hO dX1_readTerm_30 rfl rfl ?_
            obtain ⟨c9, h⟩ := h
            obtain ⟨c10, h⟩ := h
            refine gd_X1_19 hO dX1_readTerm_31 (ShC.r3 hC).1 rfl c9 ?_
            refine G_bipush (v := -15) hO dX1_readTerm_34 rfl ?_
            refine G_callVv hO dX1_readTerm_36 h cl_X1_62 c10.1 rfl rfl (Nat.le_of_ble_eq_true rfl) (fun w12 h => ?_) rfl
            refine G_iinc (v := (l1 + 1)) (lv2 := [some (.ref (gad Γ 3)), some (.int (l1 + 1))]) hO dX1_readTerm_39 rfl rfl (by decide) rfl rfl ?_
            refine G_goto (tgt := 6) hO dX1_readTerm_42 (by decide) ?_
            exact GG.sub (lv2 := [some (.ref (gad Γ 3)), some (.int (l1 + 1))]) ⟨rfl, ⟨rfl, trivial⟩⟩ h)
  refine G_aload_n hO dX1_readTerm_0 rfl rfl ?_
  refine G_callVv hO dX1_readTerm_1 h cl_X1_81 (ShC.r3 hC).1 rfl rfl (Nat.le_of_ble_eq_true rfl) (fun w2 h => ?_) rfl
  refine G_iconst (v := 0) hO dX1_readTerm_4 rfl ?_
  refine G_istore_n (lv2 := [some (.ref (gad Γ 3)), some (.int (0 : Int32))]) hO dX1_readTerm_5 rfl (by decide) rfl rfl ?_
  exact GG.sub (lv2 := [some (.ref (gad Γ 3)), some (.int (0 : Int32))]) ⟨rfl, ⟨rfl, trivial⟩⟩ h
def wp_X1_readOne (Γ : Gx) (d : Nat)  (w : Wd) (Q : Wd → Prop) : Prop :=
  ((((w 3 5) = (2 : Int32)) → (¬ w 3 2 = -1 ∧ (ShT Γ (w 3 2).toNatClampNeg ∧ CV Γ d M_X3_takeStep [.ref (gad Γ ((w 3 2).toNatClampNeg)), .int (w 3 6)] w (fun w4 => CV Γ d M_X1_readToken [.ref (gad Γ 3)] w4 (fun w6 => Q w6))))) ∧ (((w 3 5) = (3 : Int32)) → (¬ w 3 2 = -1 ∧ (ShT Γ (w 3 2).toNatClampNeg ∧ CV Γ d M_X3_takeStep [.ref (gad Γ ((w 3 2).toNatClampNeg)), .int ((-1 : Int32) - (w 3 6))] w (fun w10 => CV Γ d M_X1_readToken [.ref (gad Γ 3)] w10 (fun w12 => Q w12))))) ∧ (((w 3 5) = (45 : Int32)) → CI Γ d M_X1_opens [.ref (gad Γ 3)] w (fun r13 w14 => ((r13 = 0 → Q w14) ∧ (¬ r13 = 0 → CV Γ d M_X1_readOne [.ref (gad Γ 3)] w14 (fun w17 => (¬ w17 3 2 = -1 ∧ (ShT Γ (w17 3 2).toNatClampNeg ∧ CV Γ d M_X3_takeStep [.ref (gad Γ ((w17 3 2).toNatClampNeg)), .int (-8 : Int32)] w17 (fun w21 => (∀ w22 : Wd, w22 = wset w21 3 7 ((w21 3 7) - (1 : Int32)) → Q w22))))))))) ∧ (((w 3 5) = (40 : Int32)) → CI Γ d M_X1_opens [.ref (gad Γ 3)] w (fun r24 w25 => ((r24 = 0 → Q w25) ∧ (¬ r24 = 0 → CV Γ d M_X1_readOr [.ref (gad Γ 3)] w25 (fun w28 => CV Γ d M_X1_pass [.ref (gad Γ 3), .int (41 : Int32)] w28 (fun w30 => (∀ w31 : Wd, w31 = wset w30 3 7 ((w30 3 7) - (1 : Int32)) → Q w31))))))) ∧ ((¬ (w 3 5) = (2 : Int32) ∧ ¬ (w 3 5) = (3 : Int32) ∧ ¬ (w 3 5) = (40 : Int32) ∧ ¬ (w 3 5) = (45 : Int32)) → CV Γ d M_X1_fail [.ref (gad Γ 3)] w (fun w34 => Q w34)))
set_option maxRecDepth 20000 in
theorem con_X1_readOne {Γ : Gx} {d : Nat} (hG : GC Γ)   {w : Wd} {Q : Wd → Prop} (h : wp_X1_readOne Γ d  w Q) : CV Γ (d + 1) M_X1_readOne [.ref (gad Γ 3)] w Q := by
  have hC := hG.2.1
  refine Con.of RX1 cX1_readOne 1 none [some (.ref (gad Γ 3))] rfl rfl (by decide +kernel) hG.1 (catR cat0) (Nat.le_of_ble_eq_true rfl) rfl ?_
  intro X hO
  refine G_aload_n hO dX1_readOne_0 rfl rfl ?_
  refine gi_X1_50 hO dX1_readOne_1 (ShC.r3 hC).1 rfl ?_
  by_cases e2 : (w 3 5) = (2 : Int32)
  · have h := h.1 e2
    refine G_lookIn (tgt := 48) (q := (2, 44)) hO dX1_readOne_4 (by decide) (sweq e2 (by decide)) rfl (by decide) ?_
    refine G_aload_n hO dX1_readOne_48 rfl rfl ?_
    obtain ⟨c1, h⟩ := h
    obtain ⟨c2, h⟩ := h
    refine gd_X1_19 hO dX1_readOne_49 (ShC.r3 hC).1 rfl c1 ?_
    refine G_aload_n hO dX1_readOne_52 rfl rfl ?_
    refine gi_X1_84 hO dX1_readOne_53 (ShC.r3 hC).1 rfl ?_
    refine G_callVv hO dX1_readOne_56 h cl_X1_62 c2.1 rfl rfl (Nat.le_of_ble_eq_true rfl) (fun w4 h => ?_) rfl
    refine G_aload_n hO dX1_readOne_59 rfl rfl ?_
    refine G_callVv hO dX1_readOne_60 h cl_X1_37 (ShC.r3 hC).1 rfl rfl (Nat.le_of_ble_eq_true rfl) (fun w6 h => ?_) rfl
    refine G_goto (tgt := 153) hO dX1_readOne_63 (by decide) ?_
    exact G_vret hO dX1_readOne_153 rfl (QV.i h)
  · by_cases e3 : (w 3 5) = (3 : Int32)
    · have h := h.2.1 e3
      refine G_lookIn (tgt := 66) (q := (3, 62)) hO dX1_readOne_4 (by decide) (sweq e3 (by decide)) rfl (by decide) ?_
      refine G_aload_n hO dX1_readOne_66 rfl rfl ?_
      obtain ⟨c7, h⟩ := h
      obtain ⟨c8, h⟩ := h
      refine gd_X1_19 hO dX1_readOne_67 (ShC.r3 hC).1 rfl c7 ?_
      refine G_iconst (v := -1) hO dX1_readOne_70 rfl ?_
      refine G_aload_n hO dX1_readOne_71 rfl rfl ?_
      refine gi_X1_84 hO dX1_readOne_72 (ShC.r3 hC).1 rfl ?_
      refine G_isub hO dX1_readOne_75 ?_
      refine G_callVv hO dX1_readOne_76 h cl_X1_62 c8.1 rfl rfl (Nat.le_of_ble_eq_true rfl) (fun w10 h => ?_) rfl
      refine G_aload_n hO dX1_readOne_79 rfl rfl ?_
      refine G_callVv hO dX1_readOne_80 h cl_X1_37 (ShC.r3 hC).1 rfl rfl (Nat.le_of_ble_eq_true rfl) (fun w12 h => ?_) rfl
      refine G_goto (tgt := 153) hO dX1_readOne_83 (by decide) ?_
      exact G_vret hO dX1_readOne_153 rfl (QV.i h)
    · by_cases e40 : (w 3 5) = (40 : Int32)
      · have h := h.2.2.2.1 e40
        refine G_lookIn (tgt := 119) (q := (40, 115)) hO dX1_readOne_4 (by decide) (sweq e40 (by decide)) rfl (by decide) ?_
        refine G_aload_n hO dX1_readOne_119 rfl rfl ?_
        refine G_callVi hO dX1_readOne_120 h cl_X1_71 (ShC.r3 hC).1 rfl rfl (Nat.le_of_ble_eq_true rfl) (fun r24 w25 h => ?_) rfl
        refine G_if_eq (tgt := 153) hO dX1_readOne_123 (by decide) (fun c26 => ?_) (fun c26 => ?_)
        · have h := h.1 c26
          exact G_vret hO dX1_readOne_153 rfl (QV.i h)
        · have h := h.2 c26
          refine G_aload_n hO dX1_readOne_126 rfl rfl ?_
          refine G_callVv hO dX1_readOne_127 h cl_X1_47 (ShC.r3 hC).1 rfl rfl (Nat.le_of_ble_eq_true rfl) (fun w28 h => ?_) rfl
          refine G_aload_n hO dX1_readOne_130 rfl rfl ?_
          refine G_bipush (v := 41) hO dX1_readOne_131 rfl ?_
          refine G_callVv hO dX1_readOne_133 h cl_X1_44 (ShC.r3 hC).1 rfl rfl (Nat.le_of_ble_eq_true rfl) (fun w30 h => ?_) rfl
          refine G_aload_n hO dX1_readOne_136 rfl rfl ?_
          refine G_dup hO dX1_readOne_137 rfl ?_
          refine gi_X1_31 hO dX1_readOne_138 (ShC.r3 hC).1 rfl ?_
          refine G_iconst (v := 1) hO dX1_readOne_141 rfl ?_
          refine G_isub hO dX1_readOne_142 ?_
          refine pi_X1_31 hO dX1_readOne_143 (ShC.r3 hC).1 rfl ?_
          refine GG.nmw (fun w31 e32 => ?_)
          have h := h w31 e32
          refine G_goto (tgt := 153) hO dX1_readOne_146 (by decide) ?_
          exact G_vret hO dX1_readOne_153 rfl (QV.i h)
      · by_cases e45 : (w 3 5) = (45 : Int32)
        · have h := h.2.2.1 e45
          refine G_lookIn (tgt := 86) (q := (45, 82)) hO dX1_readOne_4 (by decide) (sweq e45 (by decide)) rfl (by decide) ?_
          refine G_aload_n hO dX1_readOne_86 rfl rfl ?_
          refine G_callVi hO dX1_readOne_87 h cl_X1_71 (ShC.r3 hC).1 rfl rfl (Nat.le_of_ble_eq_true rfl) (fun r13 w14 h => ?_) rfl
          refine G_if_eq (tgt := 153) hO dX1_readOne_90 (by decide) (fun c15 => ?_) (fun c15 => ?_)
          · have h := h.1 c15
            exact G_vret hO dX1_readOne_153 rfl (QV.i h)
          · have h := h.2 c15
            refine G_aload_n hO dX1_readOne_93 rfl rfl ?_
            refine G_callVv hO dX1_readOne_94 h cl_X1_81 (ShC.r3 hC).1 rfl rfl (Nat.le_of_ble_eq_true rfl) (fun w17 h => ?_) rfl
            refine G_aload_n hO dX1_readOne_97 rfl rfl ?_
            obtain ⟨c18, h⟩ := h
            obtain ⟨c19, h⟩ := h
            refine gd_X1_19 hO dX1_readOne_98 (ShC.r3 hC).1 rfl c18 ?_
            refine G_bipush (v := -8) hO dX1_readOne_101 rfl ?_
            refine G_callVv hO dX1_readOne_103 h cl_X1_62 c19.1 rfl rfl (Nat.le_of_ble_eq_true rfl) (fun w21 h => ?_) rfl
            refine G_aload_n hO dX1_readOne_106 rfl rfl ?_
            refine G_dup hO dX1_readOne_107 rfl ?_
            refine gi_X1_31 hO dX1_readOne_108 (ShC.r3 hC).1 rfl ?_
            refine G_iconst (v := 1) hO dX1_readOne_111 rfl ?_
            refine G_isub hO dX1_readOne_112 ?_
            refine pi_X1_31 hO dX1_readOne_113 (ShC.r3 hC).1 rfl ?_
            refine GG.nmw (fun w22 e23 => ?_)
            have h := h w22 e23
            refine GG.atpc (pc2 := 116) rfl ?_
            refine G_goto (tgt := 153) hO dX1_readOne_116 (by decide) ?_
            exact G_vret hO dX1_readOne_153 rfl (QV.i h)
        · have h := h.2.2.2.2 ⟨e2, e3, e40, e45⟩
          refine G_lookOut (tgt := 149) hO dX1_readOne_4 (by decide) (by decide) (fun q hq => ?_) ?_
          · simp only [List.mem_cons, List.not_mem_nil, or_false] at hq
            rcases hq with rfl | rfl | rfl | rfl
            · exact swne e2 (by decide)
            · exact swne e3 (by decide)
            · exact swne e40 (by decide)
            · exact swne e45 (by decide)
          · refine G_aload_n hO dX1_readOne_149 rfl rfl ?_
            refine G_callVv hO dX1_readOne_150 h cl_X1_53 (ShC.r3 hC).1 rfl rfl (Nat.le_of_ble_eq_true rfl) (fun w34 h => ?_) rfl
            exact G_vret hO dX1_readOne_153 rfl (QV.i h)
def wp_X1_opens (Γ : Gx) (d : Nat)  (w : Wd) (Q : Int32 → Wd → Prop) : Prop :=
  (((w 3 7) < (5 : Int32) → (∀ w2 : Wd, w2 = wset w 3 7 ((w 3 7) + (1 : Int32)) → CV Γ d M_X1_readToken [.ref (gad Γ 3)] w2 (fun w5 => Q (1 : Int32) w5))) ∧ (¬ (w 3 7) < (5 : Int32) → CV Γ d M_X1_fail [.ref (gad Γ 3)] w (fun w7 => Q (0 : Int32) w7)))
set_option maxRecDepth 20000 in
theorem con_X1_opens {Γ : Gx} {d : Nat} (hG : GC Γ)   {w : Wd} {Q : Int32 → Wd → Prop} (h : wp_X1_opens Γ d  w Q) : CI Γ (d + 1) M_X1_opens [.ref (gad Γ 3)] w Q := by
  have hC := hG.2.1
  refine Con.of RX1 cX1_opens 1 (some .boolean) [some (.ref (gad Γ 3))] rfl rfl (by decide +kernel) hG.1 (catR cat0) (Nat.le_of_ble_eq_true rfl) rfl ?_
  intro X hO
  refine G_aload_n hO dX1_opens_0 rfl rfl ?_
  refine gi_X1_31 hO dX1_opens_1 (ShC.r3 hC).1 rfl ?_
  refine G_iconst (v := 5) hO dX1_opens_4 rfl ?_
  refine G_icmp_lt (tgt := 14) hO dX1_opens_5 (by decide) (fun c1 => ?_) (fun c1 => ?_)
  · have h := h.1 c1
    refine G_aload_n hO dX1_opens_14 rfl rfl ?_
    refine G_dup hO dX1_opens_15 rfl ?_
    refine gi_X1_31 hO dX1_opens_16 (ShC.r3 hC).1 rfl ?_
    refine G_iconst (v := 1) hO dX1_opens_19 rfl ?_
    refine G_iadd hO dX1_opens_20 ?_
    refine pi_X1_31 hO dX1_opens_21 (ShC.r3 hC).1 rfl ?_
    refine GG.nmw (fun w2 e3 => ?_)
    have h := h w2 e3
    refine G_aload_n hO dX1_opens_24 rfl rfl ?_
    refine G_callVv hO dX1_opens_25 h cl_X1_37 (ShC.r3 hC).1 rfl rfl (Nat.le_of_ble_eq_true rfl) (fun w5 h => ?_) rfl
    refine G_iconst (v := 1) hO dX1_opens_28 rfl ?_
    exact G_iret hO dX1_opens_29 rfl rfl (QI.i h)
  · have h := h.2 c1
    refine G_aload_n hO dX1_opens_8 rfl rfl ?_
    refine G_callVv hO dX1_opens_9 h cl_X1_53 (ShC.r3 hC).1 rfl rfl (Nat.le_of_ble_eq_true rfl) (fun w7 h => ?_) rfl
    refine G_iconst (v := 0) hO dX1_opens_12 rfl ?_
    exact G_iret hO dX1_opens_13 rfl rfl (QI.i h)
def wp_X1_readToken (Γ : Gx) (d : Nat)  (w : Wd) (Q : Wd → Prop) : Prop :=
  ∀ (P_9 : Wd → Prop),
  ∀ (P_61 : Wd → Prop),
  (∀ (w : Wd), (((w 3 0) ≤ (w 3 3) → P_61 w) ∧ (¬ (w 3 0) ≤ (w 3 3) → (vp_in (w 3 3) 160 ∧ (((w 4 ((w 3 3)).toNatClampNeg) = (32 : Int32) → (∀ w5 : Wd, w5 = wset w 3 3 ((w 3 3) + (1 : Int32)) → P_9 w5)) ∧ (¬ (w 4 ((w 3 3)).toNatClampNeg) = (32 : Int32) → ((¬ (w 4 ((w 3 3)).toNatClampNeg) = (10 : Int32) → P_61 w) ∧ ((w 4 ((w 3 3)).toNatClampNeg) = (10 : Int32) → (∀ w8 : Wd, w8 = wset w 3 3 ((w 3 3) + (1 : Int32)) → P_9 w8)))))))) → P_9 w) →
  (∀ (w : Wd), (∀ w10 : Wd, w10 = wset w 3 4 (w 3 3) → (((w10 3 3) < (w10 3 0) → (vp_in (w10 3 3) 160 ∧ CI Γ d M_X4_isIn [.int (w10 4 ((w10 3 3)).toNatClampNeg), .int (97 : Int32), .int (122 : Int32)] w10 (fun r14 w15 => ((r14 = 0 → (vp_in (w15 3 3) 160 ∧ CI Γ d M_X4_isIn [.int (w15 4 ((w15 3 3)).toNatClampNeg), .int (48 : Int32), .int (57 : Int32)] w15 (fun r18 w19 => ((r18 = 0 → (vp_in (w19 3 3) 160 ∧ CI Γ d M_J0_indexOf_0f7a4 [.ref (gad Γ (100 + 2)), .int (((w19 4 ((w19 3 3)).toNatClampNeg).toUInt32 % 65536).toInt32)] w19 (fun r22 w23 => ((r22 < 0 → (∀ w25 : Wd, w25 = wset w23 3 5 (1 : Int32) → (∀ w27 : Wd, w27 = wset w25 3 3 ((w25 3 3) + (1 : Int32)) → Q w27))) ∧ (¬ r22 < 0 → (vp_in (w23 3 3) 160 ∧ (∀ w30 : Wd, w30 = wset w23 3 5 (w23 4 ((w23 3 3)).toNatClampNeg) → (∀ w32 : Wd, w32 = wset w30 3 3 ((w30 3 3) + (1 : Int32)) → Q w32)))))))) ∧ (¬ r18 = 0 → CV Γ d M_X1_readNumeral [.ref (gad Γ 3)] w19 (fun w35 => Q w35)))))) ∧ (¬ r14 = 0 → CV Γ d M_X1_readWord [.ref (gad Γ 3)] w15 (fun w37 => Q w37)))))) ∧ (¬ (w10 3 3) < (w10 3 0) → (∀ w38 : Wd, w38 = wset w10 3 5 (0 : Int32) → Q w38)))) → P_61 w) →
  (((w 3 8) = (-1 : Int32) → P_9 w) ∧ (¬ (w 3 8) = (-1 : Int32) → Q w))
set_option maxRecDepth 20000 in
theorem con_X1_readToken {Γ : Gx} {d : Nat} (hG : GC Γ)   {w : Wd} {Q : Wd → Prop} (h : wp_X1_readToken Γ d  w Q) : CV Γ (d + 1) M_X1_readToken [.ref (gad Γ 3)] w Q := by
  have hC := hG.2.1
  refine Con.of RX1 cX1_readToken 1 none [some (.ref (gad Γ 3))] rfl rfl (by decide +kernel) hG.1 (catR cat0) (Nat.le_of_ble_eq_true rfl) rfl ?_
  intro X hO
  have h := h
    (fun (w : Wd) => GG Γ X (d + 1) 1 (QV Q) 9 [some (.ref (gad Γ 3))] [] w)
    (fun (w : Wd) => GG Γ X (d + 1) 1 (QV Q) 61 [some (.ref (gad Γ 3))] [] w)
    (by
        intro w h
        refine G_aload_n hO dX1_readToken_9 rfl rfl ?_
        refine gi_X1_28 hO dX1_readToken_10 (ShC.r3 hC).1 rfl ?_
        refine G_aload_n hO dX1_readToken_13 rfl rfl ?_
        refine gi_X1_15 hO dX1_readToken_14 (ShC.r3 hC).1 rfl ?_
        refine G_icmp_ge (tgt := 61) hO dX1_readToken_17 (by decide) (fun c2 => ?_) (fun c2 => ?_)
        · have h := h.1 c2
          exact GG.sub (lv2 := [some (.ref (gad Γ 3))]) ⟨rfl, trivial⟩ h
        · have h := h.2 c2
          refine G_aload_n hO dX1_readToken_20 rfl rfl ?_
          refine gr_X1_9 (c := 4) hO dX1_readToken_21 (ShC.r3 hC).1 rfl ?_
          refine G_aload_n hO dX1_readToken_24 rfl rfl ?_
          refine gi_X1_28 hO dX1_readToken_25 (ShC.r3 hC).1 rfl ?_
          obtain ⟨c3, h⟩ := h
          refine G_iaload hO dX1_readToken_28 (ShC.r3 hC).2 c3 ?_
          refine G_bipush (v := 32) hO dX1_readToken_29 rfl ?_
          refine G_icmp_eq (tgt := 48) hO dX1_readToken_31 (by decide) (fun c4 => ?_) (fun c4 => ?_)
          · have h := h.1 c4
            refine G_aload_n hO dX1_readToken_48 rfl rfl ?_
            refine G_dup hO dX1_readToken_49 rfl ?_
            refine gi_X1_28 hO dX1_readToken_50 (ShC.r3 hC).1 rfl ?_
            refine G_iconst (v := 1) hO dX1_readToken_53 rfl ?_
            refine G_iadd hO dX1_readToken_54 ?_
            refine pi_X1_28 hO dX1_readToken_55 (ShC.r3 hC).1 rfl ?_
            refine GG.nmw (fun w5 e6 => ?_)
            have h := h w5 e6
            refine G_goto (tgt := 9) hO dX1_readToken_58 (by decide) ?_
            exact GG.sub (lv2 := [some (.ref (gad Γ 3))]) ⟨rfl, trivial⟩ h
          · have h := h.2 c4
            refine G_aload_n hO dX1_readToken_34 rfl rfl ?_
            refine gr_X1_9 (c := 4) hO dX1_readToken_35 (ShC.r3 hC).1 rfl ?_
            refine G_aload_n hO dX1_readToken_38 rfl rfl ?_
            refine gi_X1_28 hO dX1_readToken_39 (ShC.r3 hC).1 rfl ?_
            refine G_iaload hO dX1_readToken_42 (ShC.r3 hC).2 c3 ?_
            refine G_bipush (v := 10) hO dX1_readToken_43 rfl ?_
            refine G_icmp_ne (tgt := 61) hO dX1_readToken_45 (by decide) (fun c7 => ?_) (fun c7 => ?_)
            · have h := h.1 c7
              exact GG.sub (lv2 := [some (.ref (gad Γ 3))]) ⟨rfl, trivial⟩ h
            · have h := h.2 c7
              refine G_aload_n hO dX1_readToken_48 rfl rfl ?_
              refine G_dup hO dX1_readToken_49 rfl ?_
              refine gi_X1_28 hO dX1_readToken_50 (ShC.r3 hC).1 rfl ?_
              refine G_iconst (v := 1) hO dX1_readToken_53 rfl ?_
              refine G_iadd hO dX1_readToken_54 ?_
              refine pi_X1_28 hO dX1_readToken_55 (ShC.r3 hC).1 rfl ?_
              refine GG.nmw (fun w8 e9 => ?_)
              have h := h w8 e9
              refine G_goto (tgt := 9) hO dX1_readToken_58 (by decide) ?_
              exact GG.sub (lv2 := [some (.ref (gad Γ 3))]) ⟨rfl, trivial⟩ h)
    (by
        intro w h
        refine G_aload_n hO dX1_readToken_61 rfl rfl ?_
        refine G_aload_n hO dX1_readToken_62 rfl rfl ?_
        refine gi_X1_28 hO dX1_readToken_63 (ShC.r3 hC).1 rfl ?_
        refine pi_X1_56 hO dX1_readToken_66 (ShC.r3 hC).1 rfl ?_
        refine GG.nmw (fun w10 e11 => ?_)
        have h := h w10 e11
        refine G_aload_n hO dX1_readToken_69 rfl rfl ?_
        refine gi_X1_28 hO dX1_readToken_70 (ShC.r3 hC).1 rfl ?_
        refine G_aload_n hO dX1_readToken_73 rfl rfl ?_
        refine gi_X1_15 hO dX1_readToken_74 (ShC.r3 hC).1 rfl ?_
        refine G_icmp_lt (tgt := 88) hO dX1_readToken_77 (by decide) (fun c12 => ?_) (fun c12 => ?_)
        · have h := h.1 c12
          refine G_aload_n hO dX1_readToken_88 rfl rfl ?_
          refine gr_X1_9 (c := 4) hO dX1_readToken_89 (ShC.r3 hC).1 rfl ?_
          refine G_aload_n hO dX1_readToken_92 rfl rfl ?_
          refine gi_X1_28 hO dX1_readToken_93 (ShC.r3 hC).1 rfl ?_
          obtain ⟨c13, h⟩ := h
          refine G_iaload hO dX1_readToken_96 (ShC.r3 hC).2 c13 ?_
          refine G_bipush (v := 97) hO dX1_readToken_97 rfl ?_
          refine G_bipush (v := 122) hO dX1_readToken_99 rfl ?_
          refine G_callSNi hO dX1_readToken_101 h (hG.x hO).1 cl_X1_87 rfl (Nat.le_of_ble_eq_true rfl) (fun r14 w15 h => ?_) rfl
          refine G_if_eq (tgt := 114) hO dX1_readToken_104 (by decide) (fun c16 => ?_) (fun c16 => ?_)
          · have h := h.1 c16
            refine G_aload_n hO dX1_readToken_114 rfl rfl ?_
            refine gr_X1_9 (c := 4) hO dX1_readToken_115 (ShC.r3 hC).1 rfl ?_
            refine G_aload_n hO dX1_readToken_118 rfl rfl ?_
            refine gi_X1_28 hO dX1_readToken_119 (ShC.r3 hC).1 rfl ?_
            obtain ⟨c17, h⟩ := h
            refine G_iaload hO dX1_readToken_122 (ShC.r3 hC).2 c17 ?_
            refine G_bipush (v := 48) hO dX1_readToken_123 rfl ?_
            refine G_bipush (v := 57) hO dX1_readToken_125 rfl ?_
            refine G_callSNi hO dX1_readToken_127 h (hG.x hO).1 cl_X1_87 rfl (Nat.le_of_ble_eq_true rfl) (fun r18 w19 h => ?_) rfl
            refine G_if_eq (tgt := 140) hO dX1_readToken_130 (by decide) (fun c20 => ?_) (fun c20 => ?_)
            · have h := h.1 c20
              refine G_aload_n hO dX1_readToken_140 rfl rfl ?_
              refine G_ldcS (kx := 100 + 2) hO dX1_readToken_141 (hG.x hO).2.2.2.2.1 ?_
              refine G_aload_n hO dX1_readToken_143 rfl rfl ?_
              refine gr_X1_9 (c := 4) hO dX1_readToken_144 (ShC.r3 hC).1 rfl ?_
              refine G_aload_n hO dX1_readToken_147 rfl rfl ?_
              refine gi_X1_28 hO dX1_readToken_148 (ShC.r3 hC).1 rfl ?_
              obtain ⟨c21, h⟩ := h
              refine G_iaload hO dX1_readToken_151 (ShC.r3 hC).2 c21 ?_
              refine G_i2c hO dX1_readToken_152 ?_
              refine G_callT hO (hG.x hO) dX1_readToken_153 (by decide) h cl_X1_99 rfl (Nat.le_of_ble_eq_true rfl) (fun r22 w23 h => ?_) rfl
              refine G_if_lt (tgt := 171) hO dX1_readToken_156 (by decide) (fun c24 => ?_) (fun c24 => ?_)
              · have h := h.1 c24
                refine G_iconst (v := 1) hO dX1_readToken_171 rfl ?_
                refine pi_X1_50 hO dX1_readToken_172 (ShC.r3 hC).1 rfl ?_
                refine GG.nmw (fun w25 e26 => ?_)
                have h := h w25 e26
                refine G_aload_n hO dX1_readToken_175 rfl rfl ?_
                refine G_dup hO dX1_readToken_176 rfl ?_
                refine gi_X1_28 hO dX1_readToken_177 (ShC.r3 hC).1 rfl ?_
                refine G_iconst (v := 1) hO dX1_readToken_180 rfl ?_
                refine G_iadd hO dX1_readToken_181 ?_
                refine pi_X1_28 hO dX1_readToken_182 (ShC.r3 hC).1 rfl ?_
                refine GG.nmw (fun w27 e28 => ?_)
                have h := h w27 e28
                exact G_vret hO dX1_readToken_185 rfl (QV.i h)
              · have h := h.2 c24
                refine G_aload_n hO dX1_readToken_159 rfl rfl ?_
                refine gr_X1_9 (c := 4) hO dX1_readToken_160 (ShC.r3 hC).1 rfl ?_
                refine G_aload_n hO dX1_readToken_163 rfl rfl ?_
                refine gi_X1_28 hO dX1_readToken_164 (ShC.r3 hC).1 rfl ?_
                obtain ⟨c29, h⟩ := h
                refine G_iaload hO dX1_readToken_167 (ShC.r3 hC).2 c29 ?_
                refine G_goto (tgt := 172) hO dX1_readToken_168 (by decide) ?_
                refine pi_X1_50 hO dX1_readToken_172 (ShC.r3 hC).1 rfl ?_
                refine GG.nmw (fun w30 e31 => ?_)
                have h := h w30 e31
                refine G_aload_n hO dX1_readToken_175 rfl rfl ?_
                refine G_dup hO dX1_readToken_176 rfl ?_
                refine gi_X1_28 hO dX1_readToken_177 (ShC.r3 hC).1 rfl ?_
                refine G_iconst (v := 1) hO dX1_readToken_180 rfl ?_
                refine G_iadd hO dX1_readToken_181 ?_
                refine pi_X1_28 hO dX1_readToken_182 (ShC.r3 hC).1 rfl ?_
                refine GG.nmw (fun w32 e33 => ?_)
                have h := h w32 e33
                refine GG.atpc (pc2 := 185) rfl ?_
                exact G_vret hO dX1_readToken_185 rfl (QV.i h)
            · have h := h.2 c20
              refine G_aload_n hO dX1_readToken_133 rfl rfl ?_
              refine G_callVv hO dX1_readToken_134 h cl_X1_94 (ShC.r3 hC).1 rfl rfl (Nat.le_of_ble_eq_true rfl) (fun w35 h => ?_) rfl
              refine G_goto (tgt := 185) hO dX1_readToken_137 (by decide) ?_
              exact G_vret hO dX1_readToken_185 rfl (QV.i h)
          · have h := h.2 c16
            refine G_aload_n hO dX1_readToken_107 rfl rfl ?_
            refine G_callVv hO dX1_readToken_108 h cl_X1_91 (ShC.r3 hC).1 rfl rfl (Nat.le_of_ble_eq_true rfl) (fun w37 h => ?_) rfl
            refine G_goto (tgt := 185) hO dX1_readToken_111 (by decide) ?_
            exact G_vret hO dX1_readToken_185 rfl (QV.i h)
        · have h := h.2 c12
          refine G_aload_n hO dX1_readToken_80 rfl rfl ?_
          refine G_iconst (v := 0) hO dX1_readToken_81 rfl ?_
          refine pi_X1_50 hO dX1_readToken_82 (ShC.r3 hC).1 rfl ?_
          refine GG.nmw (fun w38 e39 => ?_)
          have h := h w38 e39
          refine G_goto (tgt := 185) hO dX1_readToken_85 (by decide) ?_
          exact G_vret hO dX1_readToken_185 rfl (QV.i h))
  refine G_aload_n hO dX1_readToken_0 rfl rfl ?_
  refine gi_X1_34 hO dX1_readToken_1 (ShC.r3 hC).1 rfl ?_
  refine G_iconst (v := -1) hO dX1_readToken_4 rfl ?_
  refine G_icmp_eq (tgt := 9) hO dX1_readToken_5 (by decide) (fun c1 => ?_) (fun c1 => ?_)
  · have h := h.1 c1
    exact GG.sub (lv2 := [some (.ref (gad Γ 3))]) ⟨rfl, trivial⟩ h
  · have h := h.2 c1
    exact G_vret hO dX1_readToken_8 rfl (QV.i h)
def wp_X1_readNumeral (Γ : Gx) (d : Nat)  (w : Wd) (Q : Wd → Prop) : Prop :=
  ∀ (P_5 : Wd → Prop),
  ∀ (P_72 : Wd → Prop),
  (∀ (w : Wd), (((w 3 0) ≤ (w 3 3) → P_72 w) ∧ (¬ (w 3 0) ≤ (w 3 3) → (vp_in (w 3 3) 160 ∧ CI Γ d M_X4_isIn [.int (w 4 ((w 3 3)).toNatClampNeg), .int (48 : Int32), .int (57 : Int32)] w (fun r5 w6 => ((r5 = 0 → P_72 w6) ∧ (¬ r5 = 0 → (vp_in (w6 3 3) 160 ∧ (∀ w9 : Wd, w9 = wset w6 3 6 ((((w6 3 6) * (10 : Int32)) + (w6 4 ((w6 3 3)).toNatClampNeg)) - (48 : Int32)) → (∀ w11 : Wd, w11 = wset w9 3 3 ((w9 3 3) + (1 : Int32)) → P_5 w11))))))))) → P_5 w) →
  (∀ (w : Wd), (((4 : Int32) < ((w 3 3) - (w 3 4)) → (∀ w14 : Wd, w14 = wset w 3 5 (1 : Int32) → Q w14)) ∧ (¬ (4 : Int32) < ((w 3 3) - (w 3 4)) → (∀ w16 : Wd, w16 = wset w 3 5 (2 : Int32) → Q w16))) → P_72 w) →
  (∀ w1 : Wd, w1 = wset w 3 6 (0 : Int32) → P_5 w1)
set_option maxRecDepth 20000 in
theorem con_X1_readNumeral {Γ : Gx} {d : Nat} (hG : GC Γ)   {w : Wd} {Q : Wd → Prop} (h : wp_X1_readNumeral Γ d  w Q) : CV Γ (d + 1) M_X1_readNumeral [.ref (gad Γ 3)] w Q := by
  have hC := hG.2.1
  refine Con.of RX1 cX1_readNumeral 1 none [some (.ref (gad Γ 3))] rfl rfl (by decide +kernel) hG.1 (catR cat0) (Nat.le_of_ble_eq_true rfl) rfl ?_
  intro X hO
  have h := h
    (fun (w : Wd) => GG Γ X (d + 1) 1 (QV Q) 5 [some (.ref (gad Γ 3))] [] w)
    (fun (w : Wd) => GG Γ X (d + 1) 1 (QV Q) 72 [some (.ref (gad Γ 3))] [] w)
    (by
        intro w h
        refine G_aload_n hO dX1_readNumeral_5 rfl rfl ?_
        refine gi_X1_28 hO dX1_readNumeral_6 (ShC.r3 hC).1 rfl ?_
        refine G_aload_n hO dX1_readNumeral_9 rfl rfl ?_
        refine gi_X1_15 hO dX1_readNumeral_10 (ShC.r3 hC).1 rfl ?_
        refine G_icmp_ge (tgt := 72) hO dX1_readNumeral_13 (by decide) (fun c3 => ?_) (fun c3 => ?_)
        · have h := h.1 c3
          exact GG.sub (lv2 := [some (.ref (gad Γ 3))]) ⟨rfl, trivial⟩ h
        · have h := h.2 c3
          refine G_aload_n hO dX1_readNumeral_16 rfl rfl ?_
          refine gr_X1_9 (c := 4) hO dX1_readNumeral_17 (ShC.r3 hC).1 rfl ?_
          refine G_aload_n hO dX1_readNumeral_20 rfl rfl ?_
          refine gi_X1_28 hO dX1_readNumeral_21 (ShC.r3 hC).1 rfl ?_
          obtain ⟨c4, h⟩ := h
          refine G_iaload hO dX1_readNumeral_24 (ShC.r3 hC).2 c4 ?_
          refine G_bipush (v := 48) hO dX1_readNumeral_25 rfl ?_
          refine G_bipush (v := 57) hO dX1_readNumeral_27 rfl ?_
          refine G_callSNi hO dX1_readNumeral_29 h (hG.x hO).1 cl_X1_87 rfl (Nat.le_of_ble_eq_true rfl) (fun r5 w6 h => ?_) rfl
          refine G_if_eq (tgt := 72) hO dX1_readNumeral_32 (by decide) (fun c7 => ?_) (fun c7 => ?_)
          · have h := h.1 c7
            exact GG.sub (lv2 := [some (.ref (gad Γ 3))]) ⟨rfl, trivial⟩ h
          · have h := h.2 c7
            refine G_aload_n hO dX1_readNumeral_35 rfl rfl ?_
            refine G_aload_n hO dX1_readNumeral_36 rfl rfl ?_
            refine gi_X1_84 hO dX1_readNumeral_37 (ShC.r3 hC).1 rfl ?_
            refine G_bipush (v := 10) hO dX1_readNumeral_40 rfl ?_
            refine G_imul hO dX1_readNumeral_42 ?_
            refine G_aload_n hO dX1_readNumeral_43 rfl rfl ?_
            refine gr_X1_9 (c := 4) hO dX1_readNumeral_44 (ShC.r3 hC).1 rfl ?_
            refine G_aload_n hO dX1_readNumeral_47 rfl rfl ?_
            refine gi_X1_28 hO dX1_readNumeral_48 (ShC.r3 hC).1 rfl ?_
            obtain ⟨c8, h⟩ := h
            refine G_iaload hO dX1_readNumeral_51 (ShC.r3 hC).2 c8 ?_
            refine G_iadd hO dX1_readNumeral_52 ?_
            refine G_bipush (v := 48) hO dX1_readNumeral_53 rfl ?_
            refine GG.atpc (pc2 := 55) rfl ?_
            refine G_isub hO dX1_readNumeral_55 ?_
            refine pi_X1_84 hO dX1_readNumeral_56 (ShC.r3 hC).1 rfl ?_
            refine GG.nmw (fun w9 e10 => ?_)
            have h := h w9 e10
            refine G_aload_n hO dX1_readNumeral_59 rfl rfl ?_
            refine G_dup hO dX1_readNumeral_60 rfl ?_
            refine gi_X1_28 hO dX1_readNumeral_61 (ShC.r3 hC).1 rfl ?_
            refine G_iconst (v := 1) hO dX1_readNumeral_64 rfl ?_
            refine G_iadd hO dX1_readNumeral_65 ?_
            refine pi_X1_28 hO dX1_readNumeral_66 (ShC.r3 hC).1 rfl ?_
            refine GG.nmw (fun w11 e12 => ?_)
            have h := h w11 e12
            refine G_goto (tgt := 5) hO dX1_readNumeral_69 (by decide) ?_
            exact GG.sub (lv2 := [some (.ref (gad Γ 3))]) ⟨rfl, trivial⟩ h)
    (by
        intro w h
        refine G_aload_n hO dX1_readNumeral_72 rfl rfl ?_
        refine G_aload_n hO dX1_readNumeral_73 rfl rfl ?_
        refine gi_X1_28 hO dX1_readNumeral_74 (ShC.r3 hC).1 rfl ?_
        refine G_aload_n hO dX1_readNumeral_77 rfl rfl ?_
        refine gi_X1_56 hO dX1_readNumeral_78 (ShC.r3 hC).1 rfl ?_
        refine G_isub hO dX1_readNumeral_81 ?_
        refine G_iconst (v := 4) hO dX1_readNumeral_82 rfl ?_
        refine G_icmp_gt (tgt := 90) hO dX1_readNumeral_83 (by decide) (fun c13 => ?_) (fun c13 => ?_)
        · have h := h.1 c13
          refine G_iconst (v := 1) hO dX1_readNumeral_90 rfl ?_
          refine pi_X1_50 hO dX1_readNumeral_91 (ShC.r3 hC).1 rfl ?_
          refine GG.nmw (fun w14 e15 => ?_)
          have h := h w14 e15
          exact G_vret hO dX1_readNumeral_94 rfl (QV.i h)
        · have h := h.2 c13
          refine G_iconst (v := 2) hO dX1_readNumeral_86 rfl ?_
          refine G_goto (tgt := 91) hO dX1_readNumeral_87 (by decide) ?_
          refine pi_X1_50 hO dX1_readNumeral_91 (ShC.r3 hC).1 rfl ?_
          refine GG.nmw (fun w16 e17 => ?_)
          have h := h w16 e17
          exact G_vret hO dX1_readNumeral_94 rfl (QV.i h))
  refine G_aload_n hO dX1_readNumeral_0 rfl rfl ?_
  refine G_iconst (v := 0) hO dX1_readNumeral_1 rfl ?_
  refine pi_X1_84 hO dX1_readNumeral_2 (ShC.r3 hC).1 rfl ?_
  refine GG.nmw (fun w1 e2 => ?_)
  have h := h w1 e2
  exact GG.sub (lv2 := [some (.ref (gad Γ 3))]) ⟨rfl, trivial⟩ h
def wp_X1_readWord (Γ : Gx) (d : Nat)  (w : Wd) (Q : Wd → Prop) : Prop :=
  ∀ (P_0 : Wd → Prop),
  ∀ (P_43 : Wd → Prop),
  (∀ (w : Wd), (((w 3 0) ≤ (w 3 3) → P_43 w) ∧ (¬ (w 3 0) ≤ (w 3 3) → (vp_in (w 3 3) 160 ∧ CI Γ d M_X4_isIn [.int (w 4 ((w 3 3)).toNatClampNeg), .int (97 : Int32), .int (122 : Int32)] w (fun r10 w11 => ((r10 = 0 → P_43 w11) ∧ (¬ r10 = 0 → (∀ w13 : Wd, w13 = wset w11 3 3 ((w11 3 3) + (1 : Int32)) → P_0 w13))))))) → P_0 w) →
  (∀ (w : Wd), CI Γ d M_X1_wordNumber [.ref (gad Γ 3)] w (fun r15 w16 => (∀ w17 : Wd, w17 = wset w16 3 6 r15 → ((¬ (w17 3 6) = (-1 : Int32) → (((6 : Int32) ≤ (w17 3 6) → (∀ w21 : Wd, w21 = wset w17 3 5 (((4 : Int32) + (w17 3 6)) - (6 : Int32)) → Q w21)) ∧ (¬ (6 : Int32) ≤ (w17 3 6) → (∀ w23 : Wd, w23 = wset w17 3 5 (3 : Int32) → Q w23)))) ∧ ((w17 3 6) = (-1 : Int32) → (∀ w25 : Wd, w25 = wset w17 3 5 (1 : Int32) → Q w25))))) → P_43 w) →
  (((w 3 0) ≤ (w 3 3) → P_43 w) ∧ (¬ (w 3 0) ≤ (w 3 3) → (vp_in (w 3 3) 160 ∧ CI Γ d M_X4_isIn [.int (w 4 ((w 3 3)).toNatClampNeg), .int (97 : Int32), .int (122 : Int32)] w (fun r3 w4 => ((r3 = 0 → P_43 w4) ∧ (¬ r3 = 0 → (∀ w6 : Wd, w6 = wset w4 3 3 ((w4 3 3) + (1 : Int32)) → P_0 w6)))))))
set_option maxRecDepth 20000 in
theorem con_X1_readWord {Γ : Gx} {d : Nat} (hG : GC Γ)   {w : Wd} {Q : Wd → Prop} (h : wp_X1_readWord Γ d  w Q) : CV Γ (d + 1) M_X1_readWord [.ref (gad Γ 3)] w Q := by
  have hC := hG.2.1
  refine Con.of RX1 cX1_readWord 1 none [some (.ref (gad Γ 3))] rfl rfl (by decide +kernel) hG.1 (catR cat0) (Nat.le_of_ble_eq_true rfl) rfl ?_
  intro X hO
  have h := h
    (fun (w : Wd) => GG Γ X (d + 1) 1 (QV Q) 0 [some (.ref (gad Γ 3))] [] w)
    (fun (w : Wd) => GG Γ X (d + 1) 1 (QV Q) 43 [some (.ref (gad Γ 3))] [] w)
    (by
        intro w h
        refine G_aload_n hO dX1_readWord_0 rfl rfl ?_
        refine gi_X1_28 hO dX1_readWord_1 (ShC.r3 hC).1 rfl ?_
        refine G_aload_n hO dX1_readWord_4 rfl rfl ?_
        refine gi_X1_15 hO dX1_readWord_5 (ShC.r3 hC).1 rfl ?_
        refine G_icmp_ge (tgt := 43) hO dX1_readWord_8 (by decide) (fun c8 => ?_) (fun c8 => ?_)
        · have h := h.1 c8
          exact GG.sub (lv2 := [some (.ref (gad Γ 3))]) ⟨rfl, trivial⟩ h
        · have h := h.2 c8
          refine G_aload_n hO dX1_readWord_11 rfl rfl ?_
          refine gr_X1_9 (c := 4) hO dX1_readWord_12 (ShC.r3 hC).1 rfl ?_
          refine G_aload_n hO dX1_readWord_15 rfl rfl ?_
          refine gi_X1_28 hO dX1_readWord_16 (ShC.r3 hC).1 rfl ?_
          obtain ⟨c9, h⟩ := h
          refine G_iaload hO dX1_readWord_19 (ShC.r3 hC).2 c9 ?_
          refine G_bipush (v := 97) hO dX1_readWord_20 rfl ?_
          refine G_bipush (v := 122) hO dX1_readWord_22 rfl ?_
          refine G_callSNi hO dX1_readWord_24 h (hG.x hO).1 cl_X1_87 rfl (Nat.le_of_ble_eq_true rfl) (fun r10 w11 h => ?_) rfl
          refine G_if_eq (tgt := 43) hO dX1_readWord_27 (by decide) (fun c12 => ?_) (fun c12 => ?_)
          · have h := h.1 c12
            exact GG.sub (lv2 := [some (.ref (gad Γ 3))]) ⟨rfl, trivial⟩ h
          · have h := h.2 c12
            refine G_aload_n hO dX1_readWord_30 rfl rfl ?_
            refine G_dup hO dX1_readWord_31 rfl ?_
            refine gi_X1_28 hO dX1_readWord_32 (ShC.r3 hC).1 rfl ?_
            refine G_iconst (v := 1) hO dX1_readWord_35 rfl ?_
            refine G_iadd hO dX1_readWord_36 ?_
            refine pi_X1_28 hO dX1_readWord_37 (ShC.r3 hC).1 rfl ?_
            refine GG.nmw (fun w13 e14 => ?_)
            have h := h w13 e14
            refine G_goto (tgt := 0) hO dX1_readWord_40 (by decide) ?_
            exact GG.sub (lv2 := [some (.ref (gad Γ 3))]) ⟨rfl, trivial⟩ h)
    (by
        intro w h
        refine G_aload_n hO dX1_readWord_43 rfl rfl ?_
        refine G_aload_n hO dX1_readWord_44 rfl rfl ?_
        refine G_callVi hO dX1_readWord_45 h cl_X1_105 (ShC.r3 hC).1 rfl rfl (Nat.le_of_ble_eq_true rfl) (fun r15 w16 h => ?_) rfl
        refine pi_X1_84 hO dX1_readWord_48 (ShC.r3 hC).1 rfl ?_
        refine GG.nmw (fun w17 e18 => ?_)
        have h := h w17 e18
        refine G_aload_n hO dX1_readWord_51 rfl rfl ?_
        refine gi_X1_84 hO dX1_readWord_52 (ShC.r3 hC).1 rfl ?_
        refine G_iconst (v := -1) hO dX1_readWord_55 rfl ?_
        refine G_icmp_ne (tgt := 67) hO dX1_readWord_56 (by decide) (fun c19 => ?_) (fun c19 => ?_)
        · have h := h.1 c19
          refine G_aload_n hO dX1_readWord_67 rfl rfl ?_
          refine G_aload_n hO dX1_readWord_68 rfl rfl ?_
          refine gi_X1_84 hO dX1_readWord_69 (ShC.r3 hC).1 rfl ?_
          refine G_bipush (v := 6) hO dX1_readWord_72 rfl ?_
          refine G_icmp_ge (tgt := 81) hO dX1_readWord_74 (by decide) (fun c20 => ?_) (fun c20 => ?_)
          · have h := h.1 c20
            refine G_iconst (v := 4) hO dX1_readWord_81 rfl ?_
            refine G_aload_n hO dX1_readWord_82 rfl rfl ?_
            refine gi_X1_84 hO dX1_readWord_83 (ShC.r3 hC).1 rfl ?_
            refine G_iadd hO dX1_readWord_86 ?_
            refine G_bipush (v := 6) hO dX1_readWord_87 rfl ?_
            refine G_isub hO dX1_readWord_89 ?_
            refine pi_X1_50 hO dX1_readWord_90 (ShC.r3 hC).1 rfl ?_
            refine GG.nmw (fun w21 e22 => ?_)
            have h := h w21 e22
            exact G_vret hO dX1_readWord_93 rfl (QV.i h)
          · have h := h.2 c20
            refine G_iconst (v := 3) hO dX1_readWord_77 rfl ?_
            refine G_goto (tgt := 90) hO dX1_readWord_78 (by decide) ?_
            refine pi_X1_50 hO dX1_readWord_90 (ShC.r3 hC).1 rfl ?_
            refine GG.nmw (fun w23 e24 => ?_)
            have h := h w23 e24
            exact G_vret hO dX1_readWord_93 rfl (QV.i h)
        · have h := h.2 c19
          refine G_aload_n hO dX1_readWord_59 rfl rfl ?_
          refine G_iconst (v := 1) hO dX1_readWord_60 rfl ?_
          refine pi_X1_50 hO dX1_readWord_61 (ShC.r3 hC).1 rfl ?_
          refine GG.nmw (fun w25 e26 => ?_)
          have h := h w25 e26
          refine G_goto (tgt := 93) hO dX1_readWord_64 (by decide) ?_
          exact G_vret hO dX1_readWord_93 rfl (QV.i h))
  refine G_aload_n hO dX1_readWord_0 rfl rfl ?_
  refine gi_X1_28 hO dX1_readWord_1 (ShC.r3 hC).1 rfl ?_
  refine G_aload_n hO dX1_readWord_4 rfl rfl ?_
  refine gi_X1_15 hO dX1_readWord_5 (ShC.r3 hC).1 rfl ?_
  refine G_icmp_ge (tgt := 43) hO dX1_readWord_8 (by decide) (fun c1 => ?_) (fun c1 => ?_)
  · have h := h.1 c1
    exact GG.sub (lv2 := [some (.ref (gad Γ 3))]) ⟨rfl, trivial⟩ h
  · have h := h.2 c1
    refine G_aload_n hO dX1_readWord_11 rfl rfl ?_
    refine gr_X1_9 (c := 4) hO dX1_readWord_12 (ShC.r3 hC).1 rfl ?_
    refine G_aload_n hO dX1_readWord_15 rfl rfl ?_
    refine gi_X1_28 hO dX1_readWord_16 (ShC.r3 hC).1 rfl ?_
    obtain ⟨c2, h⟩ := h
    refine G_iaload hO dX1_readWord_19 (ShC.r3 hC).2 c2 ?_
    refine G_bipush (v := 97) hO dX1_readWord_20 rfl ?_
    refine G_bipush (v := 122) hO dX1_readWord_22 rfl ?_
    refine G_callSNi hO dX1_readWord_24 h (hG.x hO).1 cl_X1_87 rfl (Nat.le_of_ble_eq_true rfl) (fun r3 w4 h => ?_) rfl
    refine G_if_eq (tgt := 43) hO dX1_readWord_27 (by decide) (fun c5 => ?_) (fun c5 => ?_)
    · have h := h.1 c5
      exact GG.sub (lv2 := [some (.ref (gad Γ 3))]) ⟨rfl, trivial⟩ h
    · have h := h.2 c5
      refine G_aload_n hO dX1_readWord_30 rfl rfl ?_
      refine G_dup hO dX1_readWord_31 rfl ?_
      refine gi_X1_28 hO dX1_readWord_32 (ShC.r3 hC).1 rfl ?_
      refine G_iconst (v := 1) hO dX1_readWord_35 rfl ?_
      refine G_iadd hO dX1_readWord_36 ?_
      refine pi_X1_28 hO dX1_readWord_37 (ShC.r3 hC).1 rfl ?_
      refine GG.nmw (fun w6 e7 => ?_)
      have h := h w6 e7
      refine G_goto (tgt := 0) hO dX1_readWord_40 (by decide) ?_
      exact GG.sub (lv2 := [some (.ref (gad Γ 3))]) ⟨rfl, trivial⟩ h
def wp_X1_wordNumber (Γ : Gx) (d : Nat)  (w : Wd) (Q : Int32 → Wd → Prop) : Prop :=
  ∀ (P_12 : Int32 → Int32 → Int32 → Int32 → Wd → Prop),
  (∀ (l1 : Int32) (l2 : Int32) (l3 : Int32) (l4 : Int32) (w : Wd), CI Γ d M_J0_length_8abf5 [.ref (gad Γ (100 + 1))] w (fun r1 w2 => ((r1 ≤ l4 → Q (-1 : Int32) w2) ∧ (¬ r1 ≤ l4 → CI Γ d M_J0_charAt_5068e [.ref (gad Γ (100 + 1)), .int l4] w2 (fun r4 w5 => ((r4 = (32 : Int32) → ((l3 = 0 → P_12 (l1 + 1) (w5 3 4) (1 : Int32) (l4 + 1) w5) ∧ (¬ l3 = 0 → ((¬ l2 = (w5 3 3) → P_12 (l1 + 1) (w5 3 4) (1 : Int32) (l4 + 1) w5) ∧ (l2 = (w5 3 3) → Q l1 w5))))) ∧ (¬ r4 = (32 : Int32) → ((l3 = 0 → P_12 l1 (l2 + 1) (0 : Int32) (l4 + 1) w5) ∧ (¬ l3 = 0 → (((w5 3 3) ≤ l2 → P_12 l1 (l2 + 1) (0 : Int32) (l4 + 1) w5) ∧ (¬ (w5 3 3) ≤ l2 → (vp_in l2 160 ∧ ((¬ (w5 4 (l2).toNatClampNeg) = r4 → P_12 l1 (l2 + 1) (0 : Int32) (l4 + 1) w5) ∧ ((w5 4 (l2).toNatClampNeg) = r4 → P_12 l1 (l2 + 1) (1 : Int32) (l4 + 1) w5))))))))))))) → P_12 l1 l2 l3 l4 w) →
  P_12 (0 : Int32) (w 3 4) (1 : Int32) (0 : Int32) w
set_option maxRecDepth 20000 in
theorem con_X1_wordNumber {Γ : Gx} {d : Nat} (hG : GC Γ)   {w : Wd} {Q : Int32 → Wd → Prop} (h : wp_X1_wordNumber Γ d  w Q) : CI Γ (d + 1) M_X1_wordNumber [.ref (gad Γ 3)] w Q := by
  have hC := hG.2.1
  refine Con.of RX1 cX1_wordNumber 6 (some .int) [some (.ref (gad Γ 3)), none, none, none, none, none] rfl rfl (by decide +kernel) hG.1 (catR cat0) (Nat.le_of_ble_eq_true rfl) rfl ?_
  intro X hO
  have h := h
    (fun (l1 : Int32) (l2 : Int32) (l3 : Int32) (l4 : Int32) (w : Wd) => GG Γ X (d + 1) 6 (QI Q) 12 [some (.ref (gad Γ 3)), some (.int l1), some (.int l2), some (.int l3), some (.int l4), none] [] w)
    (by
        intro l1 l2 l3 l4 w h
        refine G_iload hO dX1_wordNumber_12 rfl ?_
        refine G_ldcS (kx := 100 + 1) hO dX1_wordNumber_14 (hG.x hO).2.2.2.1 ?_
        refine G_callT hO (hG.x hO) dX1_wordNumber_16 (by decide) h cl_X1_111 rfl (Nat.le_of_ble_eq_true rfl) (fun r1 w2 h => ?_) rfl
        refine G_icmp_ge (tgt := 103) hO dX1_wordNumber_19 (by decide) (fun c3 => ?_) (fun c3 => ?_)
        · have h := h.1 c3
          refine G_iconst (v := -1) hO dX1_wordNumber_103 rfl ?_
          exact G_iret hO dX1_wordNumber_104 rfl rfl (QI.i h)
        · have h := h.2 c3
          refine G_ldcS (kx := 100 + 1) hO dX1_wordNumber_22 (hG.x hO).2.2.2.1 ?_
          refine G_iload hO dX1_wordNumber_24 rfl ?_
          refine G_callT hO (hG.x hO) dX1_wordNumber_26 (by decide) h cl_X1_114 rfl (Nat.le_of_ble_eq_true rfl) (fun r4 w5 h => ?_) rfl
          refine G_istore (lv2 := [some (.ref (gad Γ 3)), some (.int l1), some (.int l2), some (.int l3), some (.int l4), some (.int r4)]) hO dX1_wordNumber_29 (by decide) rfl rfl ?_
          refine G_iload hO dX1_wordNumber_31 rfl ?_
          refine G_bipush (v := 32) hO dX1_wordNumber_33 rfl ?_
          refine G_icmp_eq (tgt := 73) hO dX1_wordNumber_35 (by decide) (fun c6 => ?_) (fun c6 => ?_)
          · have h := h.1 c6
            refine G_iload_n hO dX1_wordNumber_73 rfl rfl ?_
            refine G_if_eq (tgt := 87) hO dX1_wordNumber_74 (by decide) (fun c7 => ?_) (fun c7 => ?_)
            · have h := h.1 c7
              refine G_iinc (v := (l1 + 1)) (lv2 := [some (.ref (gad Γ 3)), some (.int (l1 + 1)), some (.int l2), some (.int l3), some (.int l4), some (.int r4)]) hO dX1_wordNumber_87 rfl rfl (by decide) rfl rfl ?_
              refine G_aload_n hO dX1_wordNumber_90 rfl rfl ?_
              refine gi_X1_56 hO dX1_wordNumber_91 (ShC.r3 hC).1 rfl ?_
              refine G_istore_n (lv2 := [some (.ref (gad Γ 3)), some (.int (l1 + 1)), some (.int (w5 3 4)), some (.int l3), some (.int l4), some (.int r4)]) hO dX1_wordNumber_94 rfl (by decide) rfl rfl ?_
              refine G_iconst (v := 1) hO dX1_wordNumber_95 rfl ?_
              refine G_istore_n (lv2 := [some (.ref (gad Γ 3)), some (.int (l1 + 1)), some (.int (w5 3 4)), some (.int (1 : Int32)), some (.int l4), some (.int r4)]) hO dX1_wordNumber_96 rfl (by decide) rfl rfl ?_
              refine G_iinc (v := (l4 + 1)) (lv2 := [some (.ref (gad Γ 3)), some (.int (l1 + 1)), some (.int (w5 3 4)), some (.int (1 : Int32)), some (.int (l4 + 1)), some (.int r4)]) hO dX1_wordNumber_97 rfl rfl (by decide) rfl rfl ?_
              refine G_goto (tgt := 12) hO dX1_wordNumber_100 (by decide) ?_
              exact GG.sub (lv2 := [some (.ref (gad Γ 3)), some (.int (l1 + 1)), some (.int (w5 3 4)), some (.int (1 : Int32)), some (.int (l4 + 1)), none]) ⟨rfl, ⟨rfl, ⟨rfl, ⟨rfl, ⟨rfl, trivial⟩⟩⟩⟩⟩ h
            · have h := h.2 c7
              refine G_iload_n hO dX1_wordNumber_77 rfl rfl ?_
              refine G_aload_n hO dX1_wordNumber_78 rfl rfl ?_
              refine gi_X1_28 hO dX1_wordNumber_79 (ShC.r3 hC).1 rfl ?_
              refine G_icmp_ne (tgt := 87) hO dX1_wordNumber_82 (by decide) (fun c8 => ?_) (fun c8 => ?_)
              · have h := h.1 c8
                refine G_iinc (v := (l1 + 1)) (lv2 := [some (.ref (gad Γ 3)), some (.int (l1 + 1)), some (.int l2), some (.int l3), some (.int l4), some (.int r4)]) hO dX1_wordNumber_87 rfl rfl (by decide) rfl rfl ?_
                refine G_aload_n hO dX1_wordNumber_90 rfl rfl ?_
                refine gi_X1_56 hO dX1_wordNumber_91 (ShC.r3 hC).1 rfl ?_
                refine G_istore_n (lv2 := [some (.ref (gad Γ 3)), some (.int (l1 + 1)), some (.int (w5 3 4)), some (.int l3), some (.int l4), some (.int r4)]) hO dX1_wordNumber_94 rfl (by decide) rfl rfl ?_
                refine G_iconst (v := 1) hO dX1_wordNumber_95 rfl ?_
                refine G_istore_n (lv2 := [some (.ref (gad Γ 3)), some (.int (l1 + 1)), some (.int (w5 3 4)), some (.int (1 : Int32)), some (.int l4), some (.int r4)]) hO dX1_wordNumber_96 rfl (by decide) rfl rfl ?_
                refine G_iinc (v := (l4 + 1)) (lv2 := [some (.ref (gad Γ 3)), some (.int (l1 + 1)), some (.int (w5 3 4)), some (.int (1 : Int32)), some (.int (l4 + 1)), some (.int r4)]) hO dX1_wordNumber_97 rfl rfl (by decide) rfl rfl ?_
                refine G_goto (tgt := 12) hO dX1_wordNumber_100 (by decide) ?_
                exact GG.sub (lv2 := [some (.ref (gad Γ 3)), some (.int (l1 + 1)), some (.int (w5 3 4)), some (.int (1 : Int32)), some (.int (l4 + 1)), none]) ⟨rfl, ⟨rfl, ⟨rfl, ⟨rfl, ⟨rfl, trivial⟩⟩⟩⟩⟩ h
              · have h := h.2 c8
                refine G_iload_n hO dX1_wordNumber_85 rfl rfl ?_
                exact G_iret hO dX1_wordNumber_86 rfl rfl (QI.i h)
          · have h := h.2 c6
            refine G_iload_n hO dX1_wordNumber_38 rfl rfl ?_
            refine G_if_eq (tgt := 65) hO dX1_wordNumber_39 (by decide) (fun c9 => ?_) (fun c9 => ?_)
            · have h := h.1 c9
              refine G_iconst (v := 0) hO dX1_wordNumber_65 rfl ?_
              refine G_istore_n (lv2 := [some (.ref (gad Γ 3)), some (.int l1), some (.int l2), some (.int (0 : Int32)), some (.int l4), some (.int r4)]) hO dX1_wordNumber_66 rfl (by decide) rfl rfl ?_
              refine G_iinc (v := (l2 + 1)) (lv2 := [some (.ref (gad Γ 3)), some (.int l1), some (.int (l2 + 1)), some (.int (0 : Int32)), some (.int l4), some (.int r4)]) hO dX1_wordNumber_67 rfl rfl (by decide) rfl rfl ?_
              refine G_goto (tgt := 97) hO dX1_wordNumber_70 (by decide) ?_
              refine G_iinc (v := (l4 + 1)) (lv2 := [some (.ref (gad Γ 3)), some (.int l1), some (.int (l2 + 1)), some (.int (0 : Int32)), some (.int (l4 + 1)), some (.int r4)]) hO dX1_wordNumber_97 rfl rfl (by decide) rfl rfl ?_
              refine G_goto (tgt := 12) hO dX1_wordNumber_100 (by decide) ?_
              exact GG.sub (lv2 := [some (.ref (gad Γ 3)), some (.int l1), some (.int (l2 + 1)), some (.int (0 : Int32)), some (.int (l4 + 1)), none]) ⟨rfl, ⟨rfl, ⟨rfl, ⟨rfl, ⟨rfl, trivial⟩⟩⟩⟩⟩ h
            · have h := h.2 c9
              refine G_iload_n hO dX1_wordNumber_42 rfl rfl ?_
              refine G_aload_n hO dX1_wordNumber_43 rfl rfl ?_
              refine gi_X1_28 hO dX1_wordNumber_44 (ShC.r3 hC).1 rfl ?_
              refine G_icmp_ge (tgt := 65) hO dX1_wordNumber_47 (by decide) (fun c10 => ?_) (fun c10 => ?_)
              · have h := h.1 c10
                refine G_iconst (v := 0) hO dX1_wordNumber_65 rfl ?_
                refine G_istore_n (lv2 := [some (.ref (gad Γ 3)), some (.int l1), some (.int l2), some (.int (0 : Int32)), some (.int l4), some (.int r4)]) hO dX1_wordNumber_66 rfl (by decide) rfl rfl ?_
                refine G_iinc (v := (l2 + 1)) (lv2 := [some (.ref (gad Γ 3)), some (.int l1), some (.int (l2 + 1)), some (.int (0 : Int32)), some (.int l4), some (.int r4)]) hO dX1_wordNumber_67 rfl rfl (by decide) rfl rfl ?_
                refine G_goto (tgt := 97) hO dX1_wordNumber_70 (by decide) ?_
                refine G_iinc (v := (l4 + 1)) (lv2 := [some (.ref (gad Γ 3)), some (.int l1), some (.int (l2 + 1)), some (.int (0 : Int32)), some (.int (l4 + 1)), some (.int r4)]) hO dX1_wordNumber_97 rfl rfl (by decide) rfl rfl ?_
                refine G_goto (tgt := 12) hO dX1_wordNumber_100 (by decide) ?_
                exact GG.sub (lv2 := [some (.ref (gad Γ 3)), some (.int l1), some (.int (l2 + 1)), some (.int (0 : Int32)), some (.int (l4 + 1)), none]) ⟨rfl, ⟨rfl, ⟨rfl, ⟨rfl, ⟨rfl, trivial⟩⟩⟩⟩⟩ h
              · have h := h.2 c10
                refine G_aload_n hO dX1_wordNumber_50 rfl rfl ?_
                refine gr_X1_9 (c := 4) hO dX1_wordNumber_51 (ShC.r3 hC).1 rfl ?_
                refine G_iload_n hO dX1_wordNumber_54 rfl rfl ?_
                obtain ⟨c11, h⟩ := h
                refine G_iaload hO dX1_wordNumber_55 (ShC.r3 hC).2 c11 ?_
                refine G_iload hO dX1_wordNumber_56 rfl ?_
                refine G_icmp_ne (tgt := 65) hO dX1_wordNumber_58 (by decide) (fun c12 => ?_) (fun c12 => ?_)
                · have h := h.1 c12
                  refine G_iconst (v := 0) hO dX1_wordNumber_65 rfl ?_
                  refine G_istore_n (lv2 := [some (.ref (gad Γ 3)), some (.int l1), some (.int l2), some (.int (0 : Int32)), some (.int l4), some (.int r4)]) hO dX1_wordNumber_66 rfl (by decide) rfl rfl ?_
                  refine G_iinc (v := (l2 + 1)) (lv2 := [some (.ref (gad Γ 3)), some (.int l1), some (.int (l2 + 1)), some (.int (0 : Int32)), some (.int l4), some (.int r4)]) hO dX1_wordNumber_67 rfl rfl (by decide) rfl rfl ?_
                  refine G_goto (tgt := 97) hO dX1_wordNumber_70 (by decide) ?_
                  refine G_iinc (v := (l4 + 1)) (lv2 := [some (.ref (gad Γ 3)), some (.int l1), some (.int (l2 + 1)), some (.int (0 : Int32)), some (.int (l4 + 1)), some (.int r4)]) hO dX1_wordNumber_97 rfl rfl (by decide) rfl rfl ?_
                  refine G_goto (tgt := 12) hO dX1_wordNumber_100 (by decide) ?_
                  exact GG.sub (lv2 := [some (.ref (gad Γ 3)), some (.int l1), some (.int (l2 + 1)), some (.int (0 : Int32)), some (.int (l4 + 1)), none]) ⟨rfl, ⟨rfl, ⟨rfl, ⟨rfl, ⟨rfl, trivial⟩⟩⟩⟩⟩ h
                · have h := h.2 c12
                  refine G_iconst (v := 1) hO dX1_wordNumber_61 rfl ?_
                  refine G_goto (tgt := 66) hO dX1_wordNumber_62 (by decide) ?_
                  refine G_istore_n (lv2 := [some (.ref (gad Γ 3)), some (.int l1), some (.int l2), some (.int (1 : Int32)), some (.int l4), some (.int r4)]) hO dX1_wordNumber_66 rfl (by decide) rfl rfl ?_
                  refine G_iinc (v := (l2 + 1)) (lv2 := [some (.ref (gad Γ 3)), some (.int l1), some (.int (l2 + 1)), some (.int (1 : Int32)), some (.int l4), some (.int r4)]) hO dX1_wordNumber_67 rfl rfl (by decide) rfl rfl ?_
                  refine G_goto (tgt := 97) hO dX1_wordNumber_70 (by decide) ?_
                  refine G_iinc (v := (l4 + 1)) (lv2 := [some (.ref (gad Γ 3)), some (.int l1), some (.int (l2 + 1)), some (.int (1 : Int32)), some (.int (l4 + 1)), some (.int r4)]) hO dX1_wordNumber_97 rfl rfl (by decide) rfl rfl ?_
                  refine G_goto (tgt := 12) hO dX1_wordNumber_100 (by decide) ?_
                  exact GG.sub (lv2 := [some (.ref (gad Γ 3)), some (.int l1), some (.int (l2 + 1)), some (.int (1 : Int32)), some (.int (l4 + 1)), none]) ⟨rfl, ⟨rfl, ⟨rfl, ⟨rfl, ⟨rfl, trivial⟩⟩⟩⟩⟩ h)
  refine G_iconst (v := 0) hO dX1_wordNumber_0 rfl ?_
  refine G_istore_n (lv2 := [some (.ref (gad Γ 3)), some (.int (0 : Int32)), none, none, none, none]) hO dX1_wordNumber_1 rfl (by decide) rfl rfl ?_
  refine G_aload_n hO dX1_wordNumber_2 rfl rfl ?_
  refine gi_X1_56 hO dX1_wordNumber_3 (ShC.r3 hC).1 rfl ?_
  refine G_istore_n (lv2 := [some (.ref (gad Γ 3)), some (.int (0 : Int32)), some (.int (w 3 4)), none, none, none]) hO dX1_wordNumber_6 rfl (by decide) rfl rfl ?_
  refine G_iconst (v := 1) hO dX1_wordNumber_7 rfl ?_
  refine G_istore_n (lv2 := [some (.ref (gad Γ 3)), some (.int (0 : Int32)), some (.int (w 3 4)), some (.int (1 : Int32)), none, none]) hO dX1_wordNumber_8 rfl (by decide) rfl rfl ?_
  refine G_iconst (v := 0) hO dX1_wordNumber_9 rfl ?_
  refine G_istore (lv2 := [some (.ref (gad Γ 3)), some (.int (0 : Int32)), some (.int (w 3 4)), some (.int (1 : Int32)), some (.int (0 : Int32)), none]) hO dX1_wordNumber_10 (by decide) rfl rfl ?_
  exact GG.sub (lv2 := [some (.ref (gad Γ 3)), some (.int (0 : Int32)), some (.int (w 3 4)), some (.int (1 : Int32)), some (.int (0 : Int32)), none]) ⟨rfl, ⟨rfl, ⟨rfl, ⟨rfl, ⟨rfl, trivial⟩⟩⟩⟩⟩ h
