/-! what each method does, by program out of its bytecode (wp_..), and that the machine does it (con_..) -/
def wp_X4_set (Γ : Gx) (d : Nat) (p1 : Int32) (p2 : Int32) (p3 : Int32) (w : Wd) (Q : Int32 → Wd → Prop) : Prop :=
  CI Γ d M_X4_isIn [.int p1, .int (0 : Int32), .int (3 : Int32)] w (fun r1 w2 => ((r1 = 0 → Q (-1000 : Int32) w2) ∧ (¬ r1 = 0 → CI Γ d M_X4_isThere [.ref (gad Γ 0), .int p1, .int p2] w2 (fun r4 w5 => ((r4 = 0 → Q (-1000 : Int32) w5) ∧ (¬ r4 = 0 → CI Γ d M_X4_fits [.int p1, .int p3] w5 (fun r7 w8 => ((¬ r7 = 0 → CI Γ d M_X4_plainly [.ref (gad Γ 0), .int p1, .int p2] w8 (fun r10 w11 => (((p1 = (0 : Int32)) → (∀ w12 : Wd, w12 = wset w11 32 6 p3 → Q r10 w12)) ∧ ((p1 = (1 : Int32)) → (∀ w14 : Wd, w14 = wset w11 32 5 (((w11 32 5) &&& (((1 : Int32) <<< (p2 &&& 31)) ^^^ (-1 : Int32))) ||| (p3 <<< (p2 &&& 31))) → Q r10 w14)) ∧ ((p1 = (2 : Int32)) → (vp_in p2 5 ∧ (∀ w17 : Wd, w17 = wset w11 34 (p2).toNatClampNeg p3 → Q r10 w17))) ∧ ((¬ p1 = (0 : Int32) ∧ ¬ p1 = (1 : Int32) ∧ ¬ p1 = (2 : Int32)) → (vp_in p2 5 ∧ (∀ w20 : Wd, w20 = wset w11 35 (p2).toNatClampNeg p3 → Q r10 w20)))))) ∧ (r7 = 0 → Q (-1000 : Int32) w8)))))))))
set_option maxRecDepth 20000 in
theorem con_X4_set {Γ : Gx} {d : Nat} (hG : GC Γ) {p1 : Int32} {p2 : Int32} {p3 : Int32}  {w : Wd} {Q : Int32 → Wd → Prop} (h : wp_X4_set Γ d p1 p2 p3 w Q) : CI Γ (d + 1) M_X4_set [.ref (gad Γ 0), .int p1, .int p2, .int p3] w Q := by
  have hC := hG.2.1
  refine Con.of RX4 cX4_set 5 (some .int) [some (.ref (gad Γ 0)), some (.int p1), some (.int p2), some (.int p3), none] rfl rfl (by decide +kernel) hG.1 (catR (catI (catI (catI cat0)))) (Nat.le_of_ble_eq_true rfl) rfl ?_
  intro X hO
  refine G_iload_n hO dX4_set_0 rfl rfl ?_
  refine G_iconst (v := 0) hO dX4_set_1 rfl ?_
  refine G_iconst (v := 3) hO dX4_set_2 rfl ?_
  refine G_callSi hO dX4_set_3 h cl_X4_76 rfl (Nat.le_of_ble_eq_true rfl) (fun r1 w2 h => ?_) rfl
  refine G_if_eq (tgt := 26) hO dX4_set_6 (by decide) (fun c3 => ?_) (fun c3 => ?_)
  · have h := h.1 c3
    refine G_sipush (v := -1000) hO dX4_set_26 rfl ?_
    exact G_iret hO dX4_set_29 rfl rfl (QI.i h)
  · have h := h.2 c3
    refine G_aload_n hO dX4_set_9 rfl rfl ?_
    refine G_iload_n hO dX4_set_10 rfl rfl ?_
    refine G_iload_n hO dX4_set_11 rfl rfl ?_
    refine G_callVi hO dX4_set_12 h cl_X4_80 (ShC.c0 hC) rfl rfl (Nat.le_of_ble_eq_true rfl) (fun r4 w5 h => ?_) rfl
    refine G_if_eq (tgt := 26) hO dX4_set_15 (by decide) (fun c6 => ?_) (fun c6 => ?_)
    · have h := h.1 c6
      refine G_sipush (v := -1000) hO dX4_set_26 rfl ?_
      exact G_iret hO dX4_set_29 rfl rfl (QI.i h)
    · have h := h.2 c6
      refine G_iload_n hO dX4_set_18 rfl rfl ?_
      refine G_iload_n hO dX4_set_19 rfl rfl ?_
      refine G_callSi hO dX4_set_20 h cl_X4_84 rfl (Nat.le_of_ble_eq_true rfl) (fun r7 w8 h => ?_) rfl
      refine G_if_ne (tgt := 30) hO dX4_set_23 (by decide) (fun c9 => ?_) (fun c9 => ?_)
      · have h := h.1 c9
        refine G_aload_n hO dX4_set_30 rfl rfl ?_
        refine G_iload_n hO dX4_set_31 rfl rfl ?_
        refine G_iload_n hO dX4_set_32 rfl rfl ?_
        refine G_callVi hO dX4_set_33 h cl_X4_87 (ShC.c0 hC) rfl rfl (Nat.le_of_ble_eq_true rfl) (fun r10 w11 h => ?_) rfl
        refine G_istore (lv2 := [some (.ref (gad Γ 0)), some (.int p1), some (.int p2), some (.int p3), some (.int r10)]) hO dX4_set_36 (by decide) rfl rfl ?_
        refine G_iload_n hO dX4_set_38 rfl rfl ?_
        by_cases e0 : p1 = (0 : Int32)
        · have h := h.1 e0
          refine G_tabIn (tgt := 64) (j := 0) hO dX4_set_39 (by decide) rfl (sweq e0 (by decide)) (by decide) ?_
          refine G_aload_n hO dX4_set_64 rfl rfl ?_
          refine gr_X4_39 (c := 32) hO dX4_set_65 (ShC.c0 hC) rfl ?_
          refine G_iload_n hO dX4_set_68 rfl rfl ?_
          refine pi_X4_91 hO dX4_set_69 (ShC.f32 hC).1 rfl ?_
          refine GG.nmw (fun w12 e13 => ?_)
          have h := h w12 e13
          refine G_goto (tgt := 125) hO dX4_set_72 (by decide) ?_
          refine G_iload hO dX4_set_125 rfl ?_
          exact G_iret hO dX4_set_127 rfl rfl (QI.i h)
        · by_cases e1 : p1 = (1 : Int32)
          · have h := h.2.1 e1
            refine G_tabIn (tgt := 75) (j := 1) hO dX4_set_39 (by decide) rfl (sweq e1 (by decide)) (by decide) ?_
            refine G_aload_n hO dX4_set_75 rfl rfl ?_
            refine gr_X4_39 (c := 32) hO dX4_set_76 (ShC.c0 hC) rfl ?_
            refine G_aload_n hO dX4_set_79 rfl rfl ?_
            refine gr_X4_39 (c := 32) hO dX4_set_80 (ShC.c0 hC) rfl ?_
            refine gi_X4_94 hO dX4_set_83 (ShC.f32 hC).1 rfl ?_
            refine G_iconst (v := 1) hO dX4_set_86 rfl ?_
            refine G_iload_n hO dX4_set_87 rfl rfl ?_
            refine G_ishl hO dX4_set_88 ?_
            refine G_iconst (v := -1) hO dX4_set_89 rfl ?_
            refine G_ixor hO dX4_set_90 ?_
            refine G_iand hO dX4_set_91 ?_
            refine G_iload_n hO dX4_set_92 rfl rfl ?_
            refine GG.atpc (pc2 := 93) rfl ?_
            refine G_iload_n hO dX4_set_93 rfl rfl ?_
            refine G_ishl hO dX4_set_94 ?_
            refine G_ior hO dX4_set_95 ?_
            refine pi_X4_94 hO dX4_set_96 (ShC.f32 hC).1 rfl ?_
            refine GG.nmw (fun w14 e15 => ?_)
            have h := h w14 e15
            refine G_goto (tgt := 125) hO dX4_set_99 (by decide) ?_
            refine G_iload hO dX4_set_125 rfl ?_
            exact G_iret hO dX4_set_127 rfl rfl (QI.i h)
          · by_cases e2 : p1 = (2 : Int32)
            · have h := h.2.2.1 e2
              refine G_tabIn (tgt := 102) (j := 2) hO dX4_set_39 (by decide) rfl (sweq e2 (by decide)) (by decide) ?_
              refine G_aload_n hO dX4_set_102 rfl rfl ?_
              refine gr_X4_39 (c := 32) hO dX4_set_103 (ShC.c0 hC) rfl ?_
              refine gr_X4_97 (c := 34) hO dX4_set_106 (ShC.f32 hC).1 rfl ?_
              refine G_iload_n hO dX4_set_109 rfl rfl ?_
              refine G_iload_n hO dX4_set_110 rfl rfl ?_
              obtain ⟨c16, h⟩ := h
              refine G_iastore hO dX4_set_111 (ShC.f32 hC).2.2.1 c16 ?_
              refine GG.nmw (fun w17 e18 => ?_)
              have h := h w17 e18
              refine G_goto (tgt := 125) hO dX4_set_112 (by decide) ?_
              refine G_iload hO dX4_set_125 rfl ?_
              exact G_iret hO dX4_set_127 rfl rfl (QI.i h)
            · have h := h.2.2.2 ⟨e0, e1, e2⟩
              refine G_tabOut (tgt := 115) hO dX4_set_39 (by decide) (by decide) (fun j hj => ?_) ?_
              · rcases (show j = 0 ∨ j = 1 ∨ j = 2 from by have : j < 3 := hj; omega) with rfl | rfl | rfl
                · exact swne e0 (by decide)
                · exact swne e1 (by decide)
                · exact swne e2 (by decide)
              · refine G_aload_n hO dX4_set_115 rfl rfl ?_
                refine gr_X4_39 (c := 32) hO dX4_set_116 (ShC.c0 hC) rfl ?_
                refine gr_X4_100 (c := 35) hO dX4_set_119 (ShC.f32 hC).1 rfl ?_
                refine G_iload_n hO dX4_set_122 rfl rfl ?_
                refine G_iload_n hO dX4_set_123 rfl rfl ?_
                obtain ⟨c19, h⟩ := h
                refine G_iastore hO dX4_set_124 (ShC.f32 hC).2.2.2.1 c19 ?_
                refine GG.nmw (fun w20 e21 => ?_)
                have h := h w20 e21
                refine G_iload hO dX4_set_125 rfl ?_
                exact G_iret hO dX4_set_127 rfl rfl (QI.i h)
      · have h := h.2 c9
        refine G_sipush (v := -1000) hO dX4_set_26 rfl ?_
        exact G_iret hO dX4_set_29 rfl rfl (QI.i h)
def wp_X4_person (Γ : Gx) (d : Nat) (p1 : Int32) (p2 : Int32) (w : Wd) (Q : Int32 → Wd → Prop) : Prop :=
  CI Γ d M_X4_isIn [.int p1, .int (0 : Int32), .int (5 : Int32)] w (fun r1 w2 => ((r1 = 0 → Q (-2 : Int32) w2) ∧ (¬ r1 = 0 → CI Γ d M_X4_isIn [.int p2, .int (0 : Int32), .int (9 : Int32)] w2 (fun r4 w5 => ((¬ r4 = 0 → CI Γ d M_X0_takeIn [.ref (gad Γ 32), .int p1, .int p2] w5 (fun r7 w8 => Q r7 w8)) ∧ (r4 = 0 → Q (-2 : Int32) w5))))))
set_option maxRecDepth 20000 in
theorem con_X4_person {Γ : Gx} {d : Nat} (hG : GC Γ) {p1 : Int32} {p2 : Int32}  {w : Wd} {Q : Int32 → Wd → Prop} (h : wp_X4_person Γ d p1 p2 w Q) : CI Γ (d + 1) M_X4_person [.ref (gad Γ 0), .int p1, .int p2] w Q := by
  have hC := hG.2.1
  refine Con.of RX4 cX4_person 3 (some .int) [some (.ref (gad Γ 0)), some (.int p1), some (.int p2)] rfl rfl (by decide +kernel) hG.1 (catR (catI (catI cat0))) (Nat.le_of_ble_eq_true rfl) rfl ?_
  intro X hO
  refine G_iload_n hO dX4_person_0 rfl rfl ?_
  refine G_iconst (v := 0) hO dX4_person_1 rfl ?_
  refine G_iconst (v := 5) hO dX4_person_2 rfl ?_
  refine G_callSi hO dX4_person_3 h cl_X4_76 rfl (Nat.le_of_ble_eq_true rfl) (fun r1 w2 h => ?_) rfl
  refine G_if_eq (tgt := 19) hO dX4_person_6 (by decide) (fun c3 => ?_) (fun c3 => ?_)
  · have h := h.1 c3
    refine G_bipush (v := -2) hO dX4_person_19 rfl ?_
    exact G_iret hO dX4_person_21 rfl rfl (QI.i h)
  · have h := h.2 c3
    refine G_iload_n hO dX4_person_9 rfl rfl ?_
    refine G_iconst (v := 0) hO dX4_person_10 rfl ?_
    refine G_bipush (v := 9) hO dX4_person_11 rfl ?_
    refine G_callSi hO dX4_person_13 h cl_X4_76 rfl (Nat.le_of_ble_eq_true rfl) (fun r4 w5 h => ?_) rfl
    refine G_if_ne (tgt := 22) hO dX4_person_16 (by decide) (fun c6 => ?_) (fun c6 => ?_)
    · have h := h.1 c6
      refine G_aload_n hO dX4_person_22 rfl rfl ?_
      refine gr_X4_39 (c := 32) hO dX4_person_23 (ShC.c0 hC) rfl ?_
      refine G_iload_n hO dX4_person_26 rfl rfl ?_
      refine G_iload_n hO dX4_person_27 rfl rfl ?_
      refine G_callVi hO dX4_person_28 h cl_X4_103 (ShC.f32 hC).1 rfl rfl (Nat.le_of_ble_eq_true rfl) (fun r7 w8 h => ?_) rfl
      exact G_iret hO dX4_person_31 rfl rfl (QI.i h)
    · have h := h.2 c6
      refine G_bipush (v := -2) hO dX4_person_19 rfl ?_
      exact G_iret hO dX4_person_21 rfl rfl (QI.i h)
def wp_X4_told (Γ : Gx) (d : Nat) (p1 : Int32) (p2 : Int32) (w : Wd) (Q : Int32 → Wd → Prop) : Prop :=
  CI Γ d M_X4_isIn [.int p2, .int (0 : Int32), .int (7 : Int32)] w (fun r1 w2 => ((r1 = 0 → Q (-1000 : Int32) w2) ∧ (¬ r1 = 0 → CI Γ d M_X4_isThere [.ref (gad Γ 0), .int p2, .int p1] w2 (fun r4 w5 => ((¬ r4 = 0 → (((p2 = (4 : Int32)) → (vp_in p1 5 ∧ Q (w5 33 (p1).toNatClampNeg) w5)) ∧ ((p2 = (5 : Int32)) → CI Γ d M_X0_filledFrom [.ref (gad Γ 32), .int p1] w5 (fun r8 w9 => Q r8 w9)) ∧ ((p2 = (6 : Int32)) → CI Γ d M_X0_layersTo [.ref (gad Γ 32), .int p1] w5 (fun r10 w11 => Q r10 w11)) ∧ ((p2 = (7 : Int32)) → CV Γ d M_X0_becomeLike [.ref (gad Γ 39), .ref (gad Γ 32)] w5 (fun w13 => CI Γ d M_X0_passSunday [.ref (gad Γ 39)] w13 (fun r14 w15 => (vp_in p1 5 ∧ Q (w15 42 (p1).toNatClampNeg) w15)))) ∧ ((¬ p2 = (4 : Int32) ∧ ¬ p2 = (5 : Int32) ∧ ¬ p2 = (6 : Int32) ∧ ¬ p2 = (7 : Int32)) → CI Γ d M_X4_plainly [.ref (gad Γ 0), .int p2, .int p1] w5 (fun r17 w18 => Q r17 w18)))) ∧ (r4 = 0 → Q (-1000 : Int32) w5))))))
set_option maxRecDepth 20000 in
theorem con_X4_told {Γ : Gx} {d : Nat} (hG : GC Γ) {p1 : Int32} {p2 : Int32}  {w : Wd} {Q : Int32 → Wd → Prop} (h : wp_X4_told Γ d p1 p2 w Q) : CI Γ (d + 1) M_X4_told [.ref (gad Γ 0), .int p1, .int p2] w Q := by
  have hC := hG.2.1
  refine Con.of RX4 cX4_told 3 (some .int) [some (.ref (gad Γ 0)), some (.int p1), some (.int p2)] rfl rfl (by decide +kernel) hG.1 (catR (catI (catI cat0))) (Nat.le_of_ble_eq_true rfl) rfl ?_
  intro X hO
  refine G_iload_n hO dX4_told_0 rfl rfl ?_
  refine G_iconst (v := 0) hO dX4_told_1 rfl ?_
  refine G_bipush (v := 7) hO dX4_told_2 rfl ?_
  refine G_callSi hO dX4_told_4 h cl_X4_76 rfl (Nat.le_of_ble_eq_true rfl) (fun r1 w2 h => ?_) rfl
  refine G_if_eq (tgt := 19) hO dX4_told_7 (by decide) (fun c3 => ?_) (fun c3 => ?_)
  · have h := h.1 c3
    refine G_sipush (v := -1000) hO dX4_told_19 rfl ?_
    exact G_iret hO dX4_told_22 rfl rfl (QI.i h)
  · have h := h.2 c3
    refine G_aload_n hO dX4_told_10 rfl rfl ?_
    refine G_iload_n hO dX4_told_11 rfl rfl ?_
    refine G_iload_n hO dX4_told_12 rfl rfl ?_
    refine G_callVi hO dX4_told_13 h cl_X4_80 (ShC.c0 hC) rfl rfl (Nat.le_of_ble_eq_true rfl) (fun r4 w5 h => ?_) rfl
    refine G_if_ne (tgt := 23) hO dX4_told_16 (by decide) (fun c6 => ?_) (fun c6 => ?_)
    · have h := h.1 c6
      refine G_iload_n hO dX4_told_23 rfl rfl ?_
      by_cases e4 : p2 = (4 : Int32)
      · have h := h.1 e4
        refine G_tabIn (tgt := 56) (j := 0) hO dX4_told_24 (by decide) rfl (sweq e4 (by decide)) (by decide) ?_
        refine G_aload_n hO dX4_told_56 rfl rfl ?_
        refine gr_X4_39 (c := 32) hO dX4_told_57 (ShC.c0 hC) rfl ?_
        refine gr_X4_106 (c := 33) hO dX4_told_60 (ShC.f32 hC).1 rfl ?_
        refine G_iload_n hO dX4_told_63 rfl rfl ?_
        obtain ⟨c7, h⟩ := h
        refine G_iaload hO dX4_told_64 (ShC.f32 hC).2.1 c7 ?_
        exact G_iret hO dX4_told_65 rfl rfl (QI.i h)
      · by_cases e5 : p2 = (5 : Int32)
        · have h := h.2.1 e5
          refine G_tabIn (tgt := 66) (j := 1) hO dX4_told_24 (by decide) rfl (sweq e5 (by decide)) (by decide) ?_
          refine G_aload_n hO dX4_told_66 rfl rfl ?_
          refine gr_X4_39 (c := 32) hO dX4_told_67 (ShC.c0 hC) rfl ?_
          refine G_iload_n hO dX4_told_70 rfl rfl ?_
          refine G_callVi hO dX4_told_71 h cl_X4_109 (ShC.f32 hC).1 rfl rfl (Nat.le_of_ble_eq_true rfl) (fun r8 w9 h => ?_) rfl
          exact G_iret hO dX4_told_74 rfl rfl (QI.i h)
        · by_cases e6 : p2 = (6 : Int32)
          · have h := h.2.2.1 e6
            refine G_tabIn (tgt := 75) (j := 2) hO dX4_told_24 (by decide) rfl (sweq e6 (by decide)) (by decide) ?_
            refine G_aload_n hO dX4_told_75 rfl rfl ?_
            refine gr_X4_39 (c := 32) hO dX4_told_76 (ShC.c0 hC) rfl ?_
            refine G_iload_n hO dX4_told_79 rfl rfl ?_
            refine G_callVi hO dX4_told_80 h cl_X4_113 (ShC.f32 hC).1 rfl rfl (Nat.le_of_ble_eq_true rfl) (fun r10 w11 h => ?_) rfl
            exact G_iret hO dX4_told_83 rfl rfl (QI.i h)
          · by_cases e7 : p2 = (7 : Int32)
            · have h := h.2.2.2.1 e7
              refine G_tabIn (tgt := 84) (j := 3) hO dX4_told_24 (by decide) rfl (sweq e7 (by decide)) (by decide) ?_
              refine G_aload_n hO dX4_told_84 rfl rfl ?_
              refine gr_X4_43 (c := 39) hO dX4_told_85 (ShC.c0 hC) rfl ?_
              refine G_aload_n hO dX4_told_88 rfl rfl ?_
              refine gr_X4_39 (c := 32) hO dX4_told_89 (ShC.c0 hC) rfl ?_
              refine G_callVv hO dX4_told_92 h cl_X4_116 (ShC.f39 hC).1 rfl rfl (Nat.le_of_ble_eq_true rfl) (fun w13 h => ?_) rfl
              refine G_aload_n hO dX4_told_95 rfl rfl ?_
              refine gr_X4_43 (c := 39) hO dX4_told_96 (ShC.c0 hC) rfl ?_
              refine G_callVi hO dX4_told_99 h cl_X4_120 (ShC.f39 hC).1 rfl rfl (Nat.le_of_ble_eq_true rfl) (fun r14 w15 h => ?_) rfl
              refine G_pop hO dX4_told_102 rfl ?_
              refine G_aload_n hO dX4_told_103 rfl rfl ?_
              refine gr_X4_43 (c := 39) hO dX4_told_104 (ShC.c0 hC) rfl ?_
              refine gr_X4_100 (c := 42) hO dX4_told_107 (ShC.f39 hC).1 rfl ?_
              refine GG.atpc (pc2 := 110) rfl ?_
              refine G_iload_n hO dX4_told_110 rfl rfl ?_
              obtain ⟨c16, h⟩ := h
              refine G_iaload hO dX4_told_111 (ShC.f39 hC).2.2.2.1 c16 ?_
              exact G_iret hO dX4_told_112 rfl rfl (QI.i h)
            · have h := h.2.2.2.2 ⟨e4, e5, e6, e7⟩
              refine G_tabOut (tgt := 113) hO dX4_told_24 (by decide) (by decide) (fun j hj => ?_) ?_
              · rcases (show j = 0 ∨ j = 1 ∨ j = 2 ∨ j = 3 from by have : j < 4 := hj; omega) with rfl | rfl | rfl | rfl
                · exact swne e4 (by decide)
                · exact swne e5 (by decide)
                · exact swne e6 (by decide)
                · exact swne e7 (by decide)
              · refine G_aload_n hO dX4_told_113 rfl rfl ?_
                refine G_iload_n hO dX4_told_114 rfl rfl ?_
                refine G_iload_n hO dX4_told_115 rfl rfl ?_
                refine G_callVi hO dX4_told_116 h cl_X4_87 (ShC.c0 hC) rfl rfl (Nat.le_of_ble_eq_true rfl) (fun r17 w18 h => ?_) rfl
                exact G_iret hO dX4_told_119 rfl rfl (QI.i h)
    · have h := h.2 c6
      refine G_sipush (v := -1000) hO dX4_told_19 rfl ?_
      exact G_iret hO dX4_told_22 rfl rfl (QI.i h)
def wp_X4_isThere (Γ : Gx) (d : Nat) (p1 : Int32) (p2 : Int32) (w : Wd) (Q : Int32 → Wd → Prop) : Prop :=
  ((¬ p1 = 0 → ((¬ p1 = (1 : Int32) → CI Γ d M_X4_isPerson [.ref (gad Γ 0), .int p2] w (fun r3 w4 => (isZ r3 ∧ Q r3 w4))) ∧ (p1 = (1 : Int32) → CI Γ d M_X4_isIn [.int p2, .int (0 : Int32), .int (7 : Int32)] w (fun r5 w6 => (isZ r5 ∧ Q r5 w6))))) ∧ (p1 = 0 → Q (1 : Int32) w))
set_option maxRecDepth 20000 in
theorem con_X4_isThere {Γ : Gx} {d : Nat} (hG : GC Γ) {p1 : Int32} {p2 : Int32}  {w : Wd} {Q : Int32 → Wd → Prop} (h : wp_X4_isThere Γ d p1 p2 w Q) : CI Γ (d + 1) M_X4_isThere [.ref (gad Γ 0), .int p1, .int p2] w Q := by
  have hC := hG.2.1
  refine Con.of RX4 cX4_isThere 3 (some .boolean) [some (.ref (gad Γ 0)), some (.int p1), some (.int p2)] rfl rfl (by decide +kernel) hG.1 (catR (catI (catI cat0))) (Nat.le_of_ble_eq_true rfl) rfl ?_
  intro X hO
  refine G_iload_n hO dX4_isThere_0 rfl rfl ?_
  refine G_if_ne (tgt := 6) hO dX4_isThere_1 (by decide) (fun c1 => ?_) (fun c1 => ?_)
  · have h := h.1 c1
    refine G_iload_n hO dX4_isThere_6 rfl rfl ?_
    refine G_iconst (v := 1) hO dX4_isThere_7 rfl ?_
    refine G_icmp_ne (tgt := 21) hO dX4_isThere_8 (by decide) (fun c2 => ?_) (fun c2 => ?_)
    · have h := h.1 c2
      refine G_aload_n hO dX4_isThere_21 rfl rfl ?_
      refine G_iload_n hO dX4_isThere_22 rfl rfl ?_
      refine G_callVi hO dX4_isThere_23 h cl_X4_124 (ShC.c0 hC) rfl rfl (Nat.le_of_ble_eq_true rfl) (fun r3 w4 h => ?_) rfl
      exact G_iret hO dX4_isThere_26 rfl h.1.nb (QI.i h.2)
    · have h := h.2 c2
      refine G_iload_n hO dX4_isThere_11 rfl rfl ?_
      refine G_iconst (v := 0) hO dX4_isThere_12 rfl ?_
      refine G_bipush (v := 7) hO dX4_isThere_13 rfl ?_
      refine G_callSi hO dX4_isThere_15 h cl_X4_76 rfl (Nat.le_of_ble_eq_true rfl) (fun r5 w6 h => ?_) rfl
      refine G_goto (tgt := 26) hO dX4_isThere_18 (by decide) ?_
      exact G_iret hO dX4_isThere_26 rfl h.1.nb (QI.i h.2)
  · have h := h.2 c1
    refine G_iconst (v := 1) hO dX4_isThere_4 rfl ?_
    exact G_iret hO dX4_isThere_5 rfl rfl (QI.i h)
def wp_X4_fits (Γ : Gx) (d : Nat) (p1 : Int32) (p2 : Int32) (w : Wd) (Q : Int32 → Wd → Prop) : Prop :=
  (((p1 = (0 : Int32)) → CI Γ d M_X4_isIn [.int p2, .int (0 : Int32), .int (999 : Int32)] w (fun r1 w2 => (isZ r1 ∧ Q r1 w2))) ∧ ((p1 = (1 : Int32)) → CI Γ d M_X4_isIn [.int p2, .int (0 : Int32), .int (1 : Int32)] w (fun r3 w4 => (isZ r3 ∧ Q r3 w4))) ∧ ((p1 = (2 : Int32)) → CI Γ d M_X4_isIn [.int p2, .int (0 : Int32), .int (9 : Int32)] w (fun r5 w6 => (isZ r5 ∧ Q r5 w6))) ∧ ((¬ p1 = (0 : Int32) ∧ ¬ p1 = (1 : Int32) ∧ ¬ p1 = (2 : Int32)) → CI Γ d M_X4_isIn [.int p2, .int (-20 : Int32), .int (20 : Int32)] w (fun r7 w8 => (isZ r7 ∧ Q r7 w8))))
set_option maxRecDepth 20000 in
theorem con_X4_fits {Γ : Gx} {d : Nat} (hG : GC Γ) {p1 : Int32} {p2 : Int32}  {w : Wd} {Q : Int32 → Wd → Prop} (h : wp_X4_fits Γ d p1 p2 w Q) : CI Γ (d + 1) M_X4_fits [.int p1, .int p2] w Q := by
  have hC := hG.2.1
  refine Con.of RX4 cX4_fits 2 (some .boolean) [some (.int p1), some (.int p2)] rfl rfl (by decide +kernel) hG.1 (catI (catI cat0)) (Nat.le_of_ble_eq_true rfl) rfl ?_
  intro X hO
  refine G_iload_n hO dX4_fits_0 rfl rfl ?_
  by_cases e0 : p1 = (0 : Int32)
  · have h := h.1 e0
    refine G_tabIn (tgt := 28) (j := 0) hO dX4_fits_1 (by decide) rfl (sweq e0 (by decide)) (by decide) ?_
    refine G_iload_n hO dX4_fits_28 rfl rfl ?_
    refine G_iconst (v := 0) hO dX4_fits_29 rfl ?_
    refine G_sipush (v := 999) hO dX4_fits_30 rfl ?_
    refine G_callSi hO dX4_fits_33 h cl_X4_76 rfl (Nat.le_of_ble_eq_true rfl) (fun r1 w2 h => ?_) rfl
    exact G_iret hO dX4_fits_36 rfl h.1.nb (QI.i h.2)
  · by_cases e1 : p1 = (1 : Int32)
    · have h := h.2.1 e1
      refine G_tabIn (tgt := 37) (j := 1) hO dX4_fits_1 (by decide) rfl (sweq e1 (by decide)) (by decide) ?_
      refine G_iload_n hO dX4_fits_37 rfl rfl ?_
      refine G_iconst (v := 0) hO dX4_fits_38 rfl ?_
      refine G_iconst (v := 1) hO dX4_fits_39 rfl ?_
      refine G_callSi hO dX4_fits_40 h cl_X4_76 rfl (Nat.le_of_ble_eq_true rfl) (fun r3 w4 h => ?_) rfl
      exact G_iret hO dX4_fits_43 rfl h.1.nb (QI.i h.2)
    · by_cases e2 : p1 = (2 : Int32)
      · have h := h.2.2.1 e2
        refine G_tabIn (tgt := 44) (j := 2) hO dX4_fits_1 (by decide) rfl (sweq e2 (by decide)) (by decide) ?_
        refine G_iload_n hO dX4_fits_44 rfl rfl ?_
        refine G_iconst (v := 0) hO dX4_fits_45 rfl ?_
        refine G_bipush (v := 9) hO dX4_fits_46 rfl ?_
        refine G_callSi hO dX4_fits_48 h cl_X4_76 rfl (Nat.le_of_ble_eq_true rfl) (fun r5 w6 h => ?_) rfl
        exact G_iret hO dX4_fits_51 rfl h.1.nb (QI.i h.2)
      · have h := h.2.2.2 ⟨e0, e1, e2⟩
        refine G_tabOut (tgt := 52) hO dX4_fits_1 (by decide) (by decide) (fun j hj => ?_) ?_
        · rcases (show j = 0 ∨ j = 1 ∨ j = 2 from by have : j < 3 := hj; omega) with rfl | rfl | rfl
          · exact swne e0 (by decide)
          · exact swne e1 (by decide)
          · exact swne e2 (by decide)
        · refine G_iload_n hO dX4_fits_52 rfl rfl ?_
          refine G_bipush (v := -20) hO dX4_fits_53 rfl ?_
          refine G_bipush (v := 20) hO dX4_fits_55 rfl ?_
          refine G_callSi hO dX4_fits_57 h cl_X4_76 rfl (Nat.le_of_ble_eq_true rfl) (fun r7 w8 h => ?_) rfl
          exact G_iret hO dX4_fits_60 rfl h.1.nb (QI.i h.2)
def wp_X4_plainly (Γ : Gx) (d : Nat) (p1 : Int32) (p2 : Int32) (w : Wd) (Q : Int32 → Wd → Prop) : Prop :=
  (((p1 = (0 : Int32)) → Q (w 32 6) w) ∧ ((p1 = (1 : Int32)) → Q (((w 32 5) >>> (p2 &&& 31)) &&& (1 : Int32)) w) ∧ ((p1 = (2 : Int32)) → (vp_in p2 5 ∧ Q (w 34 (p2).toNatClampNeg) w)) ∧ ((¬ p1 = (0 : Int32) ∧ ¬ p1 = (1 : Int32) ∧ ¬ p1 = (2 : Int32)) → (vp_in p2 5 ∧ Q (w 35 (p2).toNatClampNeg) w)))
set_option maxRecDepth 20000 in
theorem con_X4_plainly {Γ : Gx} {d : Nat} (hG : GC Γ) {p1 : Int32} {p2 : Int32}  {w : Wd} {Q : Int32 → Wd → Prop} (h : wp_X4_plainly Γ d p1 p2 w Q) : CI Γ (d + 1) M_X4_plainly [.ref (gad Γ 0), .int p1, .int p2] w Q := by
  have hC := hG.2.1
  refine Con.of RX4 cX4_plainly 3 (some .int) [some (.ref (gad Γ 0)), some (.int p1), some (.int p2)] rfl rfl (by decide +kernel) hG.1 (catR (catI (catI cat0))) (Nat.le_of_ble_eq_true rfl) rfl ?_
  intro X hO
  refine G_iload_n hO dX4_plainly_0 rfl rfl ?_
  by_cases e0 : p1 = (0 : Int32)
  · have h := h.1 e0
    refine G_tabIn (tgt := 28) (j := 0) hO dX4_plainly_1 (by decide) rfl (sweq e0 (by decide)) (by decide) ?_
    refine G_aload_n hO dX4_plainly_28 rfl rfl ?_
    refine gr_X4_39 (c := 32) hO dX4_plainly_29 (ShC.c0 hC) rfl ?_
    refine gi_X4_91 hO dX4_plainly_32 (ShC.f32 hC).1 rfl ?_
    exact G_iret hO dX4_plainly_35 rfl rfl (QI.i h)
  · by_cases e1 : p1 = (1 : Int32)
    · have h := h.2.1 e1
      refine G_tabIn (tgt := 36) (j := 1) hO dX4_plainly_1 (by decide) rfl (sweq e1 (by decide)) (by decide) ?_
      refine G_aload_n hO dX4_plainly_36 rfl rfl ?_
      refine gr_X4_39 (c := 32) hO dX4_plainly_37 (ShC.c0 hC) rfl ?_
      refine gi_X4_94 hO dX4_plainly_40 (ShC.f32 hC).1 rfl ?_
      refine G_iload_n hO dX4_plainly_43 rfl rfl ?_
      refine G_ishr hO dX4_plainly_44 ?_
      refine G_iconst (v := 1) hO dX4_plainly_45 rfl ?_
      refine G_iand hO dX4_plainly_46 ?_
      exact G_iret hO dX4_plainly_47 rfl rfl (QI.i h)
    · by_cases e2 : p1 = (2 : Int32)
      · have h := h.2.2.1 e2
        refine G_tabIn (tgt := 48) (j := 2) hO dX4_plainly_1 (by decide) rfl (sweq e2 (by decide)) (by decide) ?_
        refine G_aload_n hO dX4_plainly_48 rfl rfl ?_
        refine gr_X4_39 (c := 32) hO dX4_plainly_49 (ShC.c0 hC) rfl ?_
        refine gr_X4_97 (c := 34) hO dX4_plainly_52 (ShC.f32 hC).1 rfl ?_
        refine G_iload_n hO dX4_plainly_55 rfl rfl ?_
        obtain ⟨c1, h⟩ := h
        refine G_iaload hO dX4_plainly_56 (ShC.f32 hC).2.2.1 c1 ?_
        exact G_iret hO dX4_plainly_57 rfl rfl (QI.i h)
      · have h := h.2.2.2 ⟨e0, e1, e2⟩
        refine G_tabOut (tgt := 58) hO dX4_plainly_1 (by decide) (by decide) (fun j hj => ?_) ?_
        · rcases (show j = 0 ∨ j = 1 ∨ j = 2 from by have : j < 3 := hj; omega) with rfl | rfl | rfl
          · exact swne e0 (by decide)
          · exact swne e1 (by decide)
          · exact swne e2 (by decide)
        · refine G_aload_n hO dX4_plainly_58 rfl rfl ?_
          refine gr_X4_39 (c := 32) hO dX4_plainly_59 (ShC.c0 hC) rfl ?_
          refine gr_X4_100 (c := 35) hO dX4_plainly_62 (ShC.f32 hC).1 rfl ?_
          refine G_iload_n hO dX4_plainly_65 rfl rfl ?_
          obtain ⟨c2, h⟩ := h
          refine G_iaload hO dX4_plainly_66 (ShC.f32 hC).2.2.2.1 c2 ?_
          exact G_iret hO dX4_plainly_67 rfl rfl (QI.i h)
def wp_X4_isPerson (Γ : Gx) (d : Nat) (p1 : Int32) (w : Wd) (Q : Int32 → Wd → Prop) : Prop :=
  CI Γ d M_X4_isIn [.int p1, .int (0 : Int32), .int ((w 32 4) - (1 : Int32))] w (fun r1 w2 => (isZ r1 ∧ Q r1 w2))
set_option maxRecDepth 20000 in
theorem con_X4_isPerson {Γ : Gx} {d : Nat} (hG : GC Γ) {p1 : Int32}  {w : Wd} {Q : Int32 → Wd → Prop} (h : wp_X4_isPerson Γ d p1 w Q) : CI Γ (d + 1) M_X4_isPerson [.ref (gad Γ 0), .int p1] w Q := by
  have hC := hG.2.1
  refine Con.of RX4 cX4_isPerson 2 (some .boolean) [some (.ref (gad Γ 0)), some (.int p1)] rfl rfl (by decide +kernel) hG.1 (catR (catI cat0)) (Nat.le_of_ble_eq_true rfl) rfl ?_
  intro X hO
  refine G_iload_n hO dX4_isPerson_0 rfl rfl ?_
  refine G_iconst (v := 0) hO dX4_isPerson_1 rfl ?_
  refine G_aload_n hO dX4_isPerson_2 rfl rfl ?_
  refine gr_X4_39 (c := 32) hO dX4_isPerson_3 (ShC.c0 hC) rfl ?_
  refine gi_X4_127 hO dX4_isPerson_6 (ShC.f32 hC).1 rfl ?_
  refine G_iconst (v := 1) hO dX4_isPerson_9 rfl ?_
  refine G_isub hO dX4_isPerson_10 ?_
  refine G_callSi hO dX4_isPerson_11 h cl_X4_76 rfl (Nat.le_of_ble_eq_true rfl) (fun r1 w2 h => ?_) rfl
  exact G_iret hO dX4_isPerson_14 rfl h.1.nb (QI.i h.2)
def wp_X4_areTwo (Γ : Gx) (d : Nat) (p1 : Int32) (p2 : Int32) (w : Wd) (Q : Int32 → Wd → Prop) : Prop :=
  CI Γ d M_X4_isPerson [.ref (gad Γ 0), .int p1] w (fun r1 w2 => ((r1 = 0 → Q (0 : Int32) w2) ∧ (¬ r1 = 0 → CI Γ d M_X4_isPerson [.ref (gad Γ 0), .int p2] w2 (fun r4 w5 => ((r4 = 0 → Q (0 : Int32) w5) ∧ (¬ r4 = 0 → ((p1 = p2 → Q (0 : Int32) w5) ∧ (¬ p1 = p2 → Q (1 : Int32) w5))))))))
set_option maxRecDepth 20000 in
theorem con_X4_areTwo {Γ : Gx} {d : Nat} (hG : GC Γ) {p1 : Int32} {p2 : Int32}  {w : Wd} {Q : Int32 → Wd → Prop} (h : wp_X4_areTwo Γ d p1 p2 w Q) : CI Γ (d + 1) M_X4_areTwo [.ref (gad Γ 0), .int p1, .int p2] w Q := by
  have hC := hG.2.1
  refine Con.of RX4 cX4_areTwo 3 (some .boolean) [some (.ref (gad Γ 0)), some (.int p1), some (.int p2)] rfl rfl (by decide +kernel) hG.1 (catR (catI (catI cat0))) (Nat.le_of_ble_eq_true rfl) rfl ?_
  intro X hO
  refine G_aload_n hO dX4_areTwo_0 rfl rfl ?_
  refine G_iload_n hO dX4_areTwo_1 rfl rfl ?_
  refine G_callVi hO dX4_areTwo_2 h cl_X4_124 (ShC.c0 hC) rfl rfl (Nat.le_of_ble_eq_true rfl) (fun r1 w2 h => ?_) rfl
  refine G_if_eq (tgt := 25) hO dX4_areTwo_5 (by decide) (fun c3 => ?_) (fun c3 => ?_)
  · have h := h.1 c3
    refine G_iconst (v := 0) hO dX4_areTwo_25 rfl ?_
    exact G_iret hO dX4_areTwo_26 rfl rfl (QI.i h)
  · have h := h.2 c3
    refine G_aload_n hO dX4_areTwo_8 rfl rfl ?_
    refine G_iload_n hO dX4_areTwo_9 rfl rfl ?_
    refine G_callVi hO dX4_areTwo_10 h cl_X4_124 (ShC.c0 hC) rfl rfl (Nat.le_of_ble_eq_true rfl) (fun r4 w5 h => ?_) rfl
    refine G_if_eq (tgt := 25) hO dX4_areTwo_13 (by decide) (fun c6 => ?_) (fun c6 => ?_)
    · have h := h.1 c6
      refine G_iconst (v := 0) hO dX4_areTwo_25 rfl ?_
      exact G_iret hO dX4_areTwo_26 rfl rfl (QI.i h)
    · have h := h.2 c6
      refine G_iload_n hO dX4_areTwo_16 rfl rfl ?_
      refine G_iload_n hO dX4_areTwo_17 rfl rfl ?_
      refine G_icmp_eq (tgt := 25) hO dX4_areTwo_18 (by decide) (fun c7 => ?_) (fun c7 => ?_)
      · have h := h.1 c7
        refine G_iconst (v := 0) hO dX4_areTwo_25 rfl ?_
        exact G_iret hO dX4_areTwo_26 rfl rfl (QI.i h)
      · have h := h.2 c7
        refine G_iconst (v := 1) hO dX4_areTwo_21 rfl ?_
        refine G_goto (tgt := 26) hO dX4_areTwo_22 (by decide) ?_
        exact G_iret hO dX4_areTwo_26 rfl rfl (QI.i h)
def wp_X4_isIn (Γ : Gx) (d : Nat) (p1 : Int32) (p2 : Int32) (p3 : Int32) (w : Wd) (Q : Int32 → Wd → Prop) : Prop :=
  ((p1 < p2 → Q (0 : Int32) w) ∧ (¬ p1 < p2 → ((p3 < p1 → Q (0 : Int32) w) ∧ (¬ p3 < p1 → Q (1 : Int32) w))))
set_option maxRecDepth 20000 in
theorem con_X4_isIn {Γ : Gx} {d : Nat} (hG : GC Γ) {p1 : Int32} {p2 : Int32} {p3 : Int32}  {w : Wd} {Q : Int32 → Wd → Prop} (h : wp_X4_isIn Γ d p1 p2 p3 w Q) : CI Γ (d + 1) M_X4_isIn [.int p1, .int p2, .int p3] w Q := by
  have hC := hG.2.1
  refine Con.of RX4 cX4_isIn 3 (some .boolean) [some (.int p1), some (.int p2), some (.int p3)] rfl rfl (by decide +kernel) hG.1 (catI (catI (catI cat0))) (Nat.le_of_ble_eq_true rfl) rfl ?_
  intro X hO
  refine G_iload_n hO dX4_isIn_0 rfl rfl ?_
  refine G_iload_n hO dX4_isIn_1 rfl rfl ?_
  refine G_icmp_lt (tgt := 14) hO dX4_isIn_2 (by decide) (fun c1 => ?_) (fun c1 => ?_)
  · have h := h.1 c1
    refine G_iconst (v := 0) hO dX4_isIn_14 rfl ?_
    exact G_iret hO dX4_isIn_15 rfl rfl (QI.i h)
  · have h := h.2 c1
    refine G_iload_n hO dX4_isIn_5 rfl rfl ?_
    refine G_iload_n hO dX4_isIn_6 rfl rfl ?_
    refine G_icmp_gt (tgt := 14) hO dX4_isIn_7 (by decide) (fun c2 => ?_) (fun c2 => ?_)
    · have h := h.1 c2
      refine G_iconst (v := 0) hO dX4_isIn_14 rfl ?_
      exact G_iret hO dX4_isIn_15 rfl rfl (QI.i h)
    · have h := h.2 c2
      refine G_iconst (v := 1) hO dX4_isIn_10 rfl ?_
      refine G_goto (tgt := 15) hO dX4_isIn_11 (by decide) ?_
      exact G_iret hO dX4_isIn_15 rfl rfl (QI.i h)
def wp_X4_feed (Γ : Gx) (d : Nat) (p1 : Int32) (w : Wd) (Q : Int32 → Wd → Prop) : Prop :=
  CI Γ d M_X4_isIn [.int p1, .int (0 : Int32), .int (255 : Int32)] w (fun r1 w2 => ((¬ r1 = 0 → CI Γ d M_X1_takeByte [.ref (gad Γ 3), .int p1] w2 (fun r4 w5 => ((r4 = 0 → Q (-4 : Int32) w5) ∧ (¬ r4 = 0 → Q (w5 3 0) w5)))) ∧ (r1 = 0 → Q (-2 : Int32) w2)))
set_option maxRecDepth 20000 in
theorem con_X4_feed {Γ : Gx} {d : Nat} (hG : GC Γ) {p1 : Int32}  {w : Wd} {Q : Int32 → Wd → Prop} (h : wp_X4_feed Γ d p1 w Q) : CI Γ (d + 1) M_X4_feed [.ref (gad Γ 0), .int p1] w Q := by
  have hC := hG.2.1
  refine Con.of RX4 cX4_feed 2 (some .int) [some (.ref (gad Γ 0)), some (.int p1)] rfl rfl (by decide +kernel) hG.1 (catR (catI cat0)) (Nat.le_of_ble_eq_true rfl) rfl ?_
  intro X hO
  refine G_iload_n hO dX4_feed_0 rfl rfl ?_
  refine G_iconst (v := 0) hO dX4_feed_1 rfl ?_
  refine G_sipush (v := 255) hO dX4_feed_2 rfl ?_
  refine G_callSi hO dX4_feed_5 h cl_X4_76 rfl (Nat.le_of_ble_eq_true rfl) (fun r1 w2 h => ?_) rfl
  refine G_if_ne (tgt := 14) hO dX4_feed_8 (by decide) (fun c3 => ?_) (fun c3 => ?_)
  · have h := h.1 c3
    refine G_aload_n hO dX4_feed_14 rfl rfl ?_
    refine gr_X4_24 (c := 3) hO dX4_feed_15 (ShC.c0 hC) rfl ?_
    refine G_iload_n hO dX4_feed_18 rfl rfl ?_
    refine G_callVi hO dX4_feed_19 h cl_X4_61 (ShC.r3 hC).1 rfl rfl (Nat.le_of_ble_eq_true rfl) (fun r4 w5 h => ?_) rfl
    refine G_if_eq (tgt := 35) hO dX4_feed_22 (by decide) (fun c6 => ?_) (fun c6 => ?_)
    · have h := h.1 c6
      refine G_bipush (v := -4) hO dX4_feed_35 rfl ?_
      exact G_iret hO dX4_feed_37 rfl rfl (QI.i h)
    · have h := h.2 c6
      refine G_aload_n hO dX4_feed_25 rfl rfl ?_
      refine gr_X4_24 (c := 3) hO dX4_feed_26 (ShC.c0 hC) rfl ?_
      refine gi_X4_69 hO dX4_feed_29 (ShC.r3 hC).1 rfl ?_
      refine G_goto (tgt := 37) hO dX4_feed_32 (by decide) ?_
      exact G_iret hO dX4_feed_37 rfl rfl (QI.i h)
  · have h := h.2 c3
    refine G_bipush (v := -2) hO dX4_feed_11 rfl ?_
    exact G_iret hO dX4_feed_13 rfl rfl (QI.i h)
def wp_X4_text (Γ : Gx) (d : Nat)  (w : Wd) (Q : Int32 → Wd → Prop) : Prop :=
  (((w 0 7) < (6 : Int32) → (vp_in (w 0 7) 6 ∧ (ShT Γ (rfa textCells ((w 0 7)).toNatClampNeg) ∧ CI Γ d M_X1_readInto [.ref (gad Γ 3), .ref (gad Γ (rfa textCells ((w 0 7)).toNatClampNeg))] w (fun r4 w5 => (∀ w6 : Wd, w6 = wset w5 3 0 (0 : Int32) → ((r4 = (-1 : Int32) → (∀ w9 : Wd, w9 = wset w6 0 7 ((w6 0 7) + (1 : Int32)) → Q ((w9 0 7) - (1 : Int32)) w9)) ∧ (¬ r4 = (-1 : Int32) → Q ((-100 : Int32) - r4) w6))))))) ∧ (¬ (w 0 7) < (6 : Int32) → Q (-4 : Int32) w))
set_option maxRecDepth 20000 in
theorem con_X4_text {Γ : Gx} {d : Nat} (hG : GC Γ)   {w : Wd} {Q : Int32 → Wd → Prop} (h : wp_X4_text Γ d  w Q) : CI Γ (d + 1) M_X4_text [.ref (gad Γ 0)] w Q := by
  have hC := hG.2.1
  refine Con.of RX4 cX4_text 2 (some .int) [some (.ref (gad Γ 0)), none] rfl rfl (by decide +kernel) hG.1 (catR cat0) (Nat.le_of_ble_eq_true rfl) rfl ?_
  intro X hO
  refine G_aload_n hO dX4_text_0 rfl rfl ?_
  refine gi_X4_73 hO dX4_text_1 (ShC.c0 hC) rfl ?_
  refine G_bipush (v := 6) hO dX4_text_4 rfl ?_
  refine G_icmp_lt (tgt := 12) hO dX4_text_6 (by decide) (fun c1 => ?_) (fun c1 => ?_)
  · have h := h.1 c1
    refine G_aload_n hO dX4_text_12 rfl rfl ?_
    refine gr_X4_24 (c := 3) hO dX4_text_13 (ShC.c0 hC) rfl ?_
    refine G_aload_n hO dX4_text_16 rfl rfl ?_
    refine gr_X4_11 (c := 1) hO dX4_text_17 (ShC.c0 hC) rfl ?_
    refine G_aload_n hO dX4_text_20 rfl rfl ?_
    refine gi_X4_73 hO dX4_text_21 (ShC.c0 hC) rfl ?_
    obtain ⟨c2, h⟩ := h
    obtain ⟨c3, h⟩ := h
    refine G_aaT hO dX4_text_24 (ShC.c1 hC) c2 ?_
    refine G_callVi hO dX4_text_25 h cl_X4_65 (ShC.r3 hC).1 rfl rfl (Nat.le_of_ble_eq_true rfl) (fun r4 w5 h => ?_) rfl
    refine G_istore_n (lv2 := [some (.ref (gad Γ 0)), some (.int r4)]) hO dX4_text_28 rfl (by decide) rfl rfl ?_
    refine G_aload_n hO dX4_text_29 rfl rfl ?_
    refine gr_X4_24 (c := 3) hO dX4_text_30 (ShC.c0 hC) rfl ?_
    refine G_iconst (v := 0) hO dX4_text_33 rfl ?_
    refine GG.atpc (pc2 := 34) rfl ?_
    refine pi_X4_69 hO dX4_text_34 (ShC.r3 hC).1 rfl ?_
    refine GG.nmw (fun w6 e7 => ?_)
    have h := h w6 e7
    refine G_iload_n hO dX4_text_37 rfl rfl ?_
    refine G_iconst (v := -1) hO dX4_text_38 rfl ?_
    refine G_icmp_eq (tgt := 47) hO dX4_text_39 (by decide) (fun c8 => ?_) (fun c8 => ?_)
    · have h := h.1 c8
      refine G_aload_n hO dX4_text_47 rfl rfl ?_
      refine G_dup hO dX4_text_48 rfl ?_
      refine gi_X4_73 hO dX4_text_49 (ShC.c0 hC) rfl ?_
      refine G_iconst (v := 1) hO dX4_text_52 rfl ?_
      refine G_iadd hO dX4_text_53 ?_
      refine pi_X4_73 hO dX4_text_54 (ShC.c0 hC) rfl ?_
      refine GG.nmw (fun w9 e10 => ?_)
      have h := h w9 e10
      refine G_aload_n hO dX4_text_57 rfl rfl ?_
      refine gi_X4_73 hO dX4_text_58 (ShC.c0 hC) rfl ?_
      refine G_iconst (v := 1) hO dX4_text_61 rfl ?_
      refine G_isub hO dX4_text_62 ?_
      exact G_iret hO dX4_text_63 rfl rfl (QI.i h)
    · have h := h.2 c8
      refine G_bipush (v := -100) hO dX4_text_42 rfl ?_
      refine G_iload_n hO dX4_text_44 rfl rfl ?_
      refine G_isub hO dX4_text_45 ?_
      exact G_iret hO dX4_text_46 rfl rfl (QI.i h)
  · have h := h.2 c1
    refine G_bipush (v := -4) hO dX4_text_9 rfl ?_
    exact G_iret hO dX4_text_11 rfl rfl (QI.i h)
def wp_X4_force (Γ : Gx) (d : Nat) (p1 : Int32) (w : Wd) (Q : Int32 → Wd → Prop) : Prop :=
  CI Γ d M_X4_isIn [.int p1, .int (0 : Int32), .int ((w 0 7) - (1 : Int32))] w (fun r1 w2 => ((¬ r1 = 0 → (∀ w4 : Wd, w4 = wset w2 32 7 p1 → Q (w2 32 7) w4)) ∧ (r1 = 0 → Q (-2 : Int32) w2)))
set_option maxRecDepth 20000 in
theorem con_X4_force {Γ : Gx} {d : Nat} (hG : GC Γ) {p1 : Int32}  {w : Wd} {Q : Int32 → Wd → Prop} (h : wp_X4_force Γ d p1 w Q) : CI Γ (d + 1) M_X4_force [.ref (gad Γ 0), .int p1] w Q := by
  have hC := hG.2.1
  refine Con.of RX4 cX4_force 3 (some .int) [some (.ref (gad Γ 0)), some (.int p1), none] rfl rfl (by decide +kernel) hG.1 (catR (catI cat0)) (Nat.le_of_ble_eq_true rfl) rfl ?_
  intro X hO
  refine G_iload_n hO dX4_force_0 rfl rfl ?_
  refine G_iconst (v := 0) hO dX4_force_1 rfl ?_
  refine G_aload_n hO dX4_force_2 rfl rfl ?_
  refine gi_X4_73 hO dX4_force_3 (ShC.c0 hC) rfl ?_
  refine G_iconst (v := 1) hO dX4_force_6 rfl ?_
  refine G_isub hO dX4_force_7 ?_
  refine G_callSi hO dX4_force_8 h cl_X4_76 rfl (Nat.le_of_ble_eq_true rfl) (fun r1 w2 h => ?_) rfl
  refine G_if_ne (tgt := 17) hO dX4_force_11 (by decide) (fun c3 => ?_) (fun c3 => ?_)
  · have h := h.1 c3
    refine G_aload_n hO dX4_force_17 rfl rfl ?_
    refine gr_X4_39 (c := 32) hO dX4_force_18 (ShC.c0 hC) rfl ?_
    refine gi_X4_128 hO dX4_force_21 (ShC.f32 hC).1 rfl ?_
    refine G_istore_n (lv2 := [some (.ref (gad Γ 0)), some (.int p1), some (.int (w2 32 7))]) hO dX4_force_24 rfl (by decide) rfl rfl ?_
    refine G_aload_n hO dX4_force_25 rfl rfl ?_
    refine gr_X4_39 (c := 32) hO dX4_force_26 (ShC.c0 hC) rfl ?_
    refine G_iload_n hO dX4_force_29 rfl rfl ?_
    refine pi_X4_128 hO dX4_force_30 (ShC.f32 hC).1 rfl ?_
    refine GG.nmw (fun w4 e5 => ?_)
    have h := h w4 e5
    refine G_iload_n hO dX4_force_33 rfl rfl ?_
    exact G_iret hO dX4_force_34 rfl rfl (QI.i h)
  · have h := h.2 c3
    refine G_bipush (v := -2) hO dX4_force_14 rfl ?_
    exact G_iret hO dX4_force_16 rfl rfl (QI.i h)
def wp_X4_sandwich (Γ : Gx) (d : Nat) (p1 : Int32) (p2 : Int32) (p3 : Int32) (w : Wd) (Q : Int32 → Wd → Prop) : Prop :=
  CI Γ d M_X4_areTwo [.ref (gad Γ 0), .int p1, .int p2] w (fun r1 w2 => ((¬ r1 = 0 → CI Γ d M_X4_isIn [.int p3, .int (10 : Int32), .int (17 : Int32)] w2 (fun r4 w5 => ((r4 = 0 → (((p3 = (0 : Int32)) → CI Γ d M_X0_layersOf [.ref (gad Γ 32), .int p1, .int p2] w5 (fun r7 w8 => Q r7 w8)) ∧ ((p3 = (1 : Int32)) → CI Γ d M_X0_layersOf [.ref (gad Γ 32), .int p1, .int p2] w5 (fun r9 w10 => CI Γ d M_J6_bitCount_0f7a4 [.int r9] w10 (fun r11 w12 => Q r11 w12))) ∧ ((p3 = (2 : Int32)) → CI Γ d M_X0_sendsTo [.ref (gad Γ 32), .int p1, .int p2] w5 (fun r13 w14 => ((r13 = 0 → Q (0 : Int32) w14) ∧ (¬ r13 = 0 → Q (1 : Int32) w14)))) ∧ ((p3 = (3 : Int32)) → CI Γ d M_X0_feltFrom [.ref (gad Γ 32), .int p1, .int p2] w5 (fun r16 w17 => Q r16 w17)) ∧ ((¬ p3 = (0 : Int32) ∧ ¬ p3 = (1 : Int32) ∧ ¬ p3 = (2 : Int32) ∧ ¬ p3 = (3 : Int32)) → Q (-1000 : Int32) w5))) ∧ (¬ r4 = 0 → CI Γ d M_X0_feelsBy [.ref (gad Γ 32), .int p2, .int p1, .int (p3 - (10 : Int32))] w5 (fun r18 w19 => Q r18 w19))))) ∧ (r1 = 0 → Q (-1000 : Int32) w2)))
set_option maxRecDepth 20000 in
theorem con_X4_sandwich {Γ : Gx} {d : Nat} (hG : GC Γ) {p1 : Int32} {p2 : Int32} {p3 : Int32}  {w : Wd} {Q : Int32 → Wd → Prop} (h : wp_X4_sandwich Γ d p1 p2 p3 w Q) : CI Γ (d + 1) M_X4_sandwich [.ref (gad Γ 0), .int p1, .int p2, .int p3] w Q := by
  have hC := hG.2.1
  refine Con.of RX4 cX4_sandwich 4 (some .int) [some (.ref (gad Γ 0)), some (.int p1), some (.int p2), some (.int p3)] rfl rfl (by decide +kernel) hG.1 (catR (catI (catI (catI cat0)))) (Nat.le_of_ble_eq_true rfl) rfl ?_
  intro X hO
  refine G_aload_n hO dX4_sandwich_0 rfl rfl ?_
  refine G_iload_n hO dX4_sandwich_1 rfl rfl ?_
  refine G_iload_n hO dX4_sandwich_2 rfl rfl ?_
  refine G_callVi hO dX4_sandwich_3 h cl_X4_131 (ShC.c0 hC) rfl rfl (Nat.le_of_ble_eq_true rfl) (fun r1 w2 h => ?_) rfl
  refine G_if_ne (tgt := 13) hO dX4_sandwich_6 (by decide) (fun c3 => ?_) (fun c3 => ?_)
  · have h := h.1 c3
    refine G_iload_n hO dX4_sandwich_13 rfl rfl ?_
    refine G_bipush (v := 10) hO dX4_sandwich_14 rfl ?_
    refine G_bipush (v := 17) hO dX4_sandwich_16 rfl ?_
    refine G_callSi hO dX4_sandwich_18 h cl_X4_76 rfl (Nat.le_of_ble_eq_true rfl) (fun r4 w5 h => ?_) rfl
    refine G_if_eq (tgt := 38) hO dX4_sandwich_21 (by decide) (fun c6 => ?_) (fun c6 => ?_)
    · have h := h.1 c6
      refine G_iload_n hO dX4_sandwich_38 rfl rfl ?_
      by_cases e0 : p3 = (0 : Int32)
      · have h := h.1 e0
        refine G_tabIn (tgt := 68) (j := 0) hO dX4_sandwich_39 (by decide) rfl (sweq e0 (by decide)) (by decide) ?_
        refine G_aload_n hO dX4_sandwich_68 rfl rfl ?_
        refine gr_X4_39 (c := 32) hO dX4_sandwich_69 (ShC.c0 hC) rfl ?_
        refine G_iload_n hO dX4_sandwich_72 rfl rfl ?_
        refine G_iload_n hO dX4_sandwich_73 rfl rfl ?_
        refine G_callVi hO dX4_sandwich_74 h cl_X4_138 (ShC.f32 hC).1 rfl rfl (Nat.le_of_ble_eq_true rfl) (fun r7 w8 h => ?_) rfl
        exact G_iret hO dX4_sandwich_77 rfl rfl (QI.i h)
      · by_cases e1 : p3 = (1 : Int32)
        · have h := h.2.1 e1
          refine G_tabIn (tgt := 78) (j := 1) hO dX4_sandwich_39 (by decide) rfl (sweq e1 (by decide)) (by decide) ?_
          refine G_aload_n hO dX4_sandwich_78 rfl rfl ?_
          refine gr_X4_39 (c := 32) hO dX4_sandwich_79 (ShC.c0 hC) rfl ?_
          refine G_iload_n hO dX4_sandwich_82 rfl rfl ?_
          refine G_iload_n hO dX4_sandwich_83 rfl rfl ?_
          refine G_callVi hO dX4_sandwich_84 h cl_X4_138 (ShC.f32 hC).1 rfl rfl (Nat.le_of_ble_eq_true rfl) (fun r9 w10 h => ?_) rfl
          refine G_callSi hO dX4_sandwich_87 h cl_X4_141 rfl (Nat.le_of_ble_eq_true rfl) (fun r11 w12 h => ?_) rfl
          exact G_iret hO dX4_sandwich_90 rfl rfl (QI.i h)
        · by_cases e2 : p3 = (2 : Int32)
          · have h := h.2.2.1 e2
            refine G_tabIn (tgt := 91) (j := 2) hO dX4_sandwich_39 (by decide) rfl (sweq e2 (by decide)) (by decide) ?_
            refine G_aload_n hO dX4_sandwich_91 rfl rfl ?_
            refine gr_X4_39 (c := 32) hO dX4_sandwich_92 (ShC.c0 hC) rfl ?_
            refine G_iload_n hO dX4_sandwich_95 rfl rfl ?_
            refine G_iload_n hO dX4_sandwich_96 rfl rfl ?_
            refine G_callVi hO dX4_sandwich_97 h cl_X4_146 (ShC.f32 hC).1 rfl rfl (Nat.le_of_ble_eq_true rfl) (fun r13 w14 h => ?_) rfl
            refine G_if_eq (tgt := 107) hO dX4_sandwich_100 (by decide) (fun c15 => ?_) (fun c15 => ?_)
            · have h := h.1 c15
              refine G_iconst (v := 0) hO dX4_sandwich_107 rfl ?_
              exact G_iret hO dX4_sandwich_108 rfl rfl (QI.i h)
            · have h := h.2 c15
              refine G_iconst (v := 1) hO dX4_sandwich_103 rfl ?_
              refine G_goto (tgt := 108) hO dX4_sandwich_104 (by decide) ?_
              exact G_iret hO dX4_sandwich_108 rfl rfl (QI.i h)
          · by_cases e3 : p3 = (3 : Int32)
            · have h := h.2.2.2.1 e3
              refine G_tabIn (tgt := 109) (j := 3) hO dX4_sandwich_39 (by decide) rfl (sweq e3 (by decide)) (by decide) ?_
              refine G_aload_n hO dX4_sandwich_109 rfl rfl ?_
              refine gr_X4_39 (c := 32) hO dX4_sandwich_110 (ShC.c0 hC) rfl ?_
              refine G_iload_n hO dX4_sandwich_113 rfl rfl ?_
              refine G_iload_n hO dX4_sandwich_114 rfl rfl ?_
              refine G_callVi hO dX4_sandwich_115 h cl_X4_149 (ShC.f32 hC).1 rfl rfl (Nat.le_of_ble_eq_true rfl) (fun r16 w17 h => ?_) rfl
              exact G_iret hO dX4_sandwich_118 rfl rfl (QI.i h)
            · have h := h.2.2.2.2 ⟨e0, e1, e2, e3⟩
              refine G_tabOut (tgt := 119) hO dX4_sandwich_39 (by decide) (by decide) (fun j hj => ?_) ?_
              · rcases (show j = 0 ∨ j = 1 ∨ j = 2 ∨ j = 3 from by have : j < 4 := hj; omega) with rfl | rfl | rfl | rfl
                · exact swne e0 (by decide)
                · exact swne e1 (by decide)
                · exact swne e2 (by decide)
                · exact swne e3 (by decide)
              · refine G_sipush (v := -1000) hO dX4_sandwich_119 rfl ?_
                exact G_iret hO dX4_sandwich_122 rfl rfl (QI.i h)
    · have h := h.2 c6
      refine G_aload_n hO dX4_sandwich_24 rfl rfl ?_
      refine gr_X4_39 (c := 32) hO dX4_sandwich_25 (ShC.c0 hC) rfl ?_
      refine G_iload_n hO dX4_sandwich_28 rfl rfl ?_
      refine G_iload_n hO dX4_sandwich_29 rfl rfl ?_
      refine G_iload_n hO dX4_sandwich_30 rfl rfl ?_
      refine G_bipush (v := 10) hO dX4_sandwich_31 rfl ?_
      refine G_isub hO dX4_sandwich_33 ?_
      refine G_callVi hO dX4_sandwich_34 h cl_X4_134 (ShC.f32 hC).1 rfl rfl (Nat.le_of_ble_eq_true rfl) (fun r18 w19 h => ?_) rfl
      exact G_iret hO dX4_sandwich_37 rfl rfl (QI.i h)
  · have h := h.2 c3
    refine G_sipush (v := -1000) hO dX4_sandwich_9 rfl ?_
    exact G_iret hO dX4_sandwich_12 rfl rfl (QI.i h)
def wp_X4_sunday (Γ : Gx) (d : Nat)  (w : Wd) (Q : Int32 → Wd → Prop) : Prop :=
  (((w 32 6) < (999 : Int32) → CI Γ d M_X0_passSunday [.ref (gad Γ 32)] w (fun r2 w3 => (∀ w4 : Wd, w4 = wset w3 32 6 ((w3 32 6) + (1 : Int32)) → CI Γ d M_X0_glad [.ref (gad Γ 32)] w4 (fun r6 w7 => Q r6 w7)))) ∧ (¬ (w 32 6) < (999 : Int32) → Q (-1000 : Int32) w))
set_option maxRecDepth 20000 in
theorem con_X4_sunday {Γ : Gx} {d : Nat} (hG : GC Γ)   {w : Wd} {Q : Int32 → Wd → Prop} (h : wp_X4_sunday Γ d  w Q) : CI Γ (d + 1) M_X4_sunday [.ref (gad Γ 0)] w Q := by
  have hC := hG.2.1
  refine Con.of RX4 cX4_sunday 1 (some .int) [some (.ref (gad Γ 0))] rfl rfl (by decide +kernel) hG.1 (catR cat0) (Nat.le_of_ble_eq_true rfl) rfl ?_
  intro X hO
  refine G_aload_n hO dX4_sunday_0 rfl rfl ?_
  refine gr_X4_39 (c := 32) hO dX4_sunday_1 (ShC.c0 hC) rfl ?_
  refine gi_X4_91 hO dX4_sunday_4 (ShC.f32 hC).1 rfl ?_
  refine G_sipush (v := 999) hO dX4_sunday_7 rfl ?_
  refine G_icmp_lt (tgt := 17) hO dX4_sunday_10 (by decide) (fun c1 => ?_) (fun c1 => ?_)
  · have h := h.1 c1
    refine G_aload_n hO dX4_sunday_17 rfl rfl ?_
    refine gr_X4_39 (c := 32) hO dX4_sunday_18 (ShC.c0 hC) rfl ?_
    refine G_callVi hO dX4_sunday_21 h cl_X4_120 (ShC.f32 hC).1 rfl rfl (Nat.le_of_ble_eq_true rfl) (fun r2 w3 h => ?_) rfl
    refine G_pop hO dX4_sunday_24 rfl ?_
    refine G_aload_n hO dX4_sunday_25 rfl rfl ?_
    refine gr_X4_39 (c := 32) hO dX4_sunday_26 (ShC.c0 hC) rfl ?_
    refine G_dup hO dX4_sunday_29 rfl ?_
    refine gi_X4_91 hO dX4_sunday_30 (ShC.f32 hC).1 rfl ?_
    refine G_iconst (v := 1) hO dX4_sunday_33 rfl ?_
    refine G_iadd hO dX4_sunday_34 ?_
    refine pi_X4_91 hO dX4_sunday_35 (ShC.f32 hC).1 rfl ?_
    refine GG.nmw (fun w4 e5 => ?_)
    have h := h w4 e5
    refine G_aload_n hO dX4_sunday_38 rfl rfl ?_
    refine GG.atpc (pc2 := 39) rfl ?_
    refine gr_X4_39 (c := 32) hO dX4_sunday_39 (ShC.c0 hC) rfl ?_
    refine G_callVi hO dX4_sunday_42 h cl_X4_152 (ShC.f32 hC).1 rfl rfl (Nat.le_of_ble_eq_true rfl) (fun r6 w7 h => ?_) rfl
    exact G_iret hO dX4_sunday_45 rfl rfl (QI.i h)
  · have h := h.2 c1
    refine G_sipush (v := -1000) hO dX4_sunday_13 rfl ?_
    exact G_iret hO dX4_sunday_16 rfl rfl (QI.i h)
def wp_X4_run (Γ : Gx) (d : Nat) (p1 : Int32) (p2 : Int32) (w : Wd) (Q : Int32 → Wd → Prop) : Prop :=
  ∀ (P_22 : Int32 → Wd → Prop),
  ∀ (P_50 : Int32 → Wd → Prop),
  (∀ (s0 : Int32) (w : Wd), CI Γ d M_X4_isIn [.int p1, .int (0 : Int32), .int (40 : Int32)] w (fun r5 w6 => ((r5 = 0 → Q (-1000 : Int32) w6) ∧ (¬ r5 = 0 → ((¬ s0 = 0 → P_50 s0 w6) ∧ (s0 = 0 → CI Γ d M_X4_isIn [.int p2, .int (0 : Int32), .int (1 : Int32)] w6 (fun r9 w10 => ((¬ r9 = 0 → P_50 s0 w10) ∧ (r9 = 0 → Q (-1000 : Int32) w10)))))))) → P_22 s0 w) →
  (∀ (l3 : Int32) (w : Wd), CV Γ d M_X0_becomeLike [.ref (gad Γ 39), .ref (gad Γ 32)] w (fun w13 => ((¬ p2 = (1 : Int32) → CI Γ d M_X0_gladBehind [.ref (gad Γ 39), .int p1] w13 (fun r15 w16 => ((l3 = 0 → Q r15 w16) ∧ (¬ l3 = 0 → (vp_in (p2 - (10 : Int32)) 5 ∧ Q (w16 42 ((p2 - (10 : Int32))).toNatClampNeg) w16))))) ∧ (p2 = (1 : Int32) → CI Γ d M_X0_emptyBehind [.ref (gad Γ 39), .int p1] w13 (fun r19 w20 => Q r19 w20)))) → P_50 l3 w) →
  ((p2 < (10 : Int32) → P_22 (0 : Int32) w) ∧ (¬ p2 < (10 : Int32) → CI Γ d M_X4_isPerson [.ref (gad Γ 0), .int (p2 - (10 : Int32))] w (fun r2 w3 => ((r2 = 0 → P_22 (0 : Int32) w3) ∧ (¬ r2 = 0 → P_22 (1 : Int32) w3)))))
set_option maxRecDepth 20000 in
theorem con_X4_run {Γ : Gx} {d : Nat} (hG : GC Γ) {p1 : Int32} {p2 : Int32}  {w : Wd} {Q : Int32 → Wd → Prop} (h : wp_X4_run Γ d p1 p2 w Q) : CI Γ (d + 1) M_X4_run [.ref (gad Γ 0), .int p1, .int p2] w Q := by
  have hC := hG.2.1
  refine Con.of RX4 cX4_run 5 (some .int) [some (.ref (gad Γ 0)), some (.int p1), some (.int p2), none, none] rfl rfl (by decide +kernel) hG.1 (catR (catI (catI cat0))) (Nat.le_of_ble_eq_true rfl) rfl ?_
  intro X hO
  have h := h
    (fun (s0 : Int32) (w : Wd) => GG Γ X (d + 1) 5 (QI Q) 22 [some (.ref (gad Γ 0)), some (.int p1), some (.int p2), none, none] [.int s0] w)
    (fun (l3 : Int32) (w : Wd) => GG Γ X (d + 1) 5 (QI Q) 50 [some (.ref (gad Γ 0)), some (.int p1), some (.int p2), some (.int l3), none] [] w)
    (by
        intro s0 w h
        refine G_istore_n (lv2 := [some (.ref (gad Γ 0)), some (.int p1), some (.int p2), some (.int s0), none]) hO dX4_run_22 rfl (by decide) rfl rfl ?_
        refine G_iload_n hO dX4_run_23 rfl rfl ?_
        refine G_iconst (v := 0) hO dX4_run_24 rfl ?_
        refine G_bipush (v := 40) hO dX4_run_25 rfl ?_
        refine G_callSi hO dX4_run_27 h cl_X4_76 rfl (Nat.le_of_ble_eq_true rfl) (fun r5 w6 h => ?_) rfl
        refine G_if_eq (tgt := 46) hO dX4_run_30 (by decide) (fun c7 => ?_) (fun c7 => ?_)
        · have h := h.1 c7
          refine G_sipush (v := -1000) hO dX4_run_46 rfl ?_
          exact G_iret hO dX4_run_49 rfl rfl (QI.i h)
        · have h := h.2 c7
          refine G_iload_n hO dX4_run_33 rfl rfl ?_
          refine G_if_ne (tgt := 50) hO dX4_run_34 (by decide) (fun c8 => ?_) (fun c8 => ?_)
          · have h := h.1 c8
            exact GG.sub (lv2 := [some (.ref (gad Γ 0)), some (.int p1), some (.int p2), some (.int s0), none]) ⟨rfl, ⟨rfl, ⟨rfl, ⟨rfl, trivial⟩⟩⟩⟩ h
          · have h := h.2 c8
            refine G_iload_n hO dX4_run_37 rfl rfl ?_
            refine G_iconst (v := 0) hO dX4_run_38 rfl ?_
            refine G_iconst (v := 1) hO dX4_run_39 rfl ?_
            refine G_callSi hO dX4_run_40 h cl_X4_76 rfl (Nat.le_of_ble_eq_true rfl) (fun r9 w10 h => ?_) rfl
            refine G_if_ne (tgt := 50) hO dX4_run_43 (by decide) (fun c11 => ?_) (fun c11 => ?_)
            · have h := h.1 c11
              exact GG.sub (lv2 := [some (.ref (gad Γ 0)), some (.int p1), some (.int p2), some (.int s0), none]) ⟨rfl, ⟨rfl, ⟨rfl, ⟨rfl, trivial⟩⟩⟩⟩ h
            · have h := h.2 c11
              refine G_sipush (v := -1000) hO dX4_run_46 rfl ?_
              exact G_iret hO dX4_run_49 rfl rfl (QI.i h))
    (by
        intro l3 w h
        refine G_aload_n hO dX4_run_50 rfl rfl ?_
        refine gr_X4_43 (c := 39) hO dX4_run_51 (ShC.c0 hC) rfl ?_
        refine G_aload_n hO dX4_run_54 rfl rfl ?_
        refine gr_X4_39 (c := 32) hO dX4_run_55 (ShC.c0 hC) rfl ?_
        refine G_callVv hO dX4_run_58 h cl_X4_116 (ShC.f39 hC).1 rfl rfl (Nat.le_of_ble_eq_true rfl) (fun w13 h => ?_) rfl
        refine G_iload_n hO dX4_run_61 rfl rfl ?_
        refine G_iconst (v := 1) hO dX4_run_62 rfl ?_
        refine G_icmp_ne (tgt := 75) hO dX4_run_63 (by decide) (fun c14 => ?_) (fun c14 => ?_)
        · have h := h.1 c14
          refine G_aload_n hO dX4_run_75 rfl rfl ?_
          refine gr_X4_43 (c := 39) hO dX4_run_76 (ShC.c0 hC) rfl ?_
          refine G_iload_n hO dX4_run_79 rfl rfl ?_
          refine G_callVi hO dX4_run_80 h cl_X4_158 (ShC.f39 hC).1 rfl rfl (Nat.le_of_ble_eq_true rfl) (fun r15 w16 h => ?_) rfl
          refine G_istore (lv2 := [some (.ref (gad Γ 0)), some (.int p1), some (.int p2), some (.int l3), some (.int r15)]) hO dX4_run_83 (by decide) rfl rfl ?_
          refine G_iload_n hO dX4_run_85 rfl rfl ?_
          refine G_if_eq (tgt := 104) hO dX4_run_86 (by decide) (fun c17 => ?_) (fun c17 => ?_)
          · have h := h.1 c17
            refine G_iload hO dX4_run_104 rfl ?_
            exact G_iret hO dX4_run_106 rfl rfl (QI.i h)
          · have h := h.2 c17
            refine G_aload_n hO dX4_run_89 rfl rfl ?_
            refine gr_X4_43 (c := 39) hO dX4_run_90 (ShC.c0 hC) rfl ?_
            refine gr_X4_100 (c := 42) hO dX4_run_93 (ShC.f39 hC).1 rfl ?_
            refine G_iload_n hO dX4_run_96 rfl rfl ?_
            refine G_bipush (v := 10) hO dX4_run_97 rfl ?_
            refine G_isub hO dX4_run_99 ?_
            obtain ⟨c18, h⟩ := h
            refine G_iaload hO dX4_run_100 (ShC.f39 hC).2.2.2.1 c18 ?_
            refine G_goto (tgt := 106) hO dX4_run_101 (by decide) ?_
            exact G_iret hO dX4_run_106 rfl rfl (QI.i h)
        · have h := h.2 c14
          refine G_aload_n hO dX4_run_66 rfl rfl ?_
          refine gr_X4_43 (c := 39) hO dX4_run_67 (ShC.c0 hC) rfl ?_
          refine G_iload_n hO dX4_run_70 rfl rfl ?_
          refine G_callVi hO dX4_run_71 h cl_X4_155 (ShC.f39 hC).1 rfl rfl (Nat.le_of_ble_eq_true rfl) (fun r19 w20 h => ?_) rfl
          exact G_iret hO dX4_run_74 rfl rfl (QI.i h))
  refine G_iload_n hO dX4_run_0 rfl rfl ?_
  refine G_bipush (v := 10) hO dX4_run_1 rfl ?_
  refine G_icmp_lt (tgt := 21) hO dX4_run_3 (by decide) (fun c1 => ?_) (fun c1 => ?_)
  · have h := h.1 c1
    refine G_iconst (v := 0) hO dX4_run_21 rfl ?_
    exact GG.sub (lv2 := [some (.ref (gad Γ 0)), some (.int p1), some (.int p2), none, none]) ⟨rfl, ⟨rfl, ⟨rfl, trivial⟩⟩⟩ h
  · have h := h.2 c1
    refine G_aload_n hO dX4_run_6 rfl rfl ?_
    refine G_iload_n hO dX4_run_7 rfl rfl ?_
    refine G_bipush (v := 10) hO dX4_run_8 rfl ?_
    refine G_isub hO dX4_run_10 ?_
    refine G_callVi hO dX4_run_11 h cl_X4_124 (ShC.c0 hC) rfl rfl (Nat.le_of_ble_eq_true rfl) (fun r2 w3 h => ?_) rfl
    refine G_if_eq (tgt := 21) hO dX4_run_14 (by decide) (fun c4 => ?_) (fun c4 => ?_)
    · have h := h.1 c4
      refine G_iconst (v := 0) hO dX4_run_21 rfl ?_
      exact GG.sub (lv2 := [some (.ref (gad Γ 0)), some (.int p1), some (.int p2), none, none]) ⟨rfl, ⟨rfl, ⟨rfl, trivial⟩⟩⟩ h
    · have h := h.2 c4
      refine G_iconst (v := 1) hO dX4_run_17 rfl ?_
      refine G_goto (tgt := 22) hO dX4_run_18 (by decide) ?_
      exact GG.sub (lv2 := [some (.ref (gad Γ 0)), some (.int p1), some (.int p2), none, none]) ⟨rfl, ⟨rfl, ⟨rfl, trivial⟩⟩⟩ h
def wp_X4_again (Γ : Gx) (d : Nat) (p1 : Int32) (w : Wd) (Q : Int32 → Wd → Prop) : Prop :=
  ∀ (P_38 : Int32 → Wd → Prop),
  (∀ (l2 : Int32) (w : Wd), (((40 : Int32) < l2 → ((¬ p1 = (2 : Int32) → CI Γ d M_X4_firstAgain [.ref (gad Γ 0), .int p1] w (fun r12 w13 => Q r12 w13)) ∧ (p1 = (2 : Int32) → CI Γ d M_X4_firstDead [.ref (gad Γ 0)] w (fun r14 w15 => Q r14 w15)))) ∧ (¬ (40 : Int32) < l2 → CI Γ d M_X0_passSunday [.ref (gad Γ 39)] w (fun r16 w17 => CI Γ d M_X0_allMoods [.ref (gad Γ 39)] w17 (fun r18 w19 => (vp_in l2 41 ∧ (∀ w21 : Wd, w21 = wset w19 5 (l2).toNatClampNeg r18 → P_38 (l2 + 1) w21)))))) → P_38 l2 w) →
  CI Γ d M_X4_isIn [.int p1, .int (0 : Int32), .int (2 : Int32)] w (fun r1 w2 => ((¬ r1 = 0 → CV Γ d M_X0_becomeLike [.ref (gad Γ 39), .ref (gad Γ 32)] w2 (fun w5 => CI Γ d M_X0_allMoods [.ref (gad Γ 39)] w5 (fun r6 w7 => (∀ w8 : Wd, w8 = wset w7 5 0 r6 → P_38 (1 : Int32) w8)))) ∧ (r1 = 0 → Q (-2 : Int32) w2)))
set_option maxRecDepth 20000 in
theorem con_X4_again {Γ : Gx} {d : Nat} (hG : GC Γ) {p1 : Int32}  {w : Wd} {Q : Int32 → Wd → Prop} (h : wp_X4_again Γ d p1 w Q) : CI Γ (d + 1) M_X4_again [.ref (gad Γ 0), .int p1] w Q := by
  have hC := hG.2.1
  refine Con.of RX4 cX4_again 3 (some .int) [some (.ref (gad Γ 0)), some (.int p1), none] rfl rfl (by decide +kernel) hG.1 (catR (catI cat0)) (Nat.le_of_ble_eq_true rfl) rfl ?_
  intro X hO
  have h := h
    (fun (l2 : Int32) (w : Wd) => GG Γ X (d + 1) 3 (QI Q) 38 [some (.ref (gad Γ 0)), some (.int p1), some (.int l2)] [] w)
    (by
        intro l2 w h
        refine G_iload_n hO dX4_again_38 rfl rfl ?_
        refine G_bipush (v := 40) hO dX4_again_39 rfl ?_
        refine G_icmp_gt (tgt := 71) hO dX4_again_41 (by decide) (fun c10 => ?_) (fun c10 => ?_)
        · have h := h.1 c10
          refine G_iload_n hO dX4_again_71 rfl rfl ?_
          refine G_iconst (v := 2) hO dX4_again_72 rfl ?_
          refine G_icmp_ne (tgt := 83) hO dX4_again_73 (by decide) (fun c11 => ?_) (fun c11 => ?_)
          · have h := h.1 c11
            refine G_aload_n hO dX4_again_83 rfl rfl ?_
            refine G_iload_n hO dX4_again_84 rfl rfl ?_
            refine G_callVi hO dX4_again_85 h cl_X4_167 (ShC.c0 hC) rfl rfl (Nat.le_of_ble_eq_true rfl) (fun r12 w13 h => ?_) rfl
            exact G_iret hO dX4_again_88 rfl rfl (QI.i h)
          · have h := h.2 c11
            refine G_aload_n hO dX4_again_76 rfl rfl ?_
            refine G_callVi hO dX4_again_77 h cl_X4_164 (ShC.c0 hC) rfl rfl (Nat.le_of_ble_eq_true rfl) (fun r14 w15 h => ?_) rfl
            refine G_goto (tgt := 88) hO dX4_again_80 (by decide) ?_
            exact G_iret hO dX4_again_88 rfl rfl (QI.i h)
        · have h := h.2 c10
          refine G_aload_n hO dX4_again_44 rfl rfl ?_
          refine gr_X4_43 (c := 39) hO dX4_again_45 (ShC.c0 hC) rfl ?_
          refine G_callVi hO dX4_again_48 h cl_X4_120 (ShC.f39 hC).1 rfl rfl (Nat.le_of_ble_eq_true rfl) (fun r16 w17 h => ?_) rfl
          refine G_pop hO dX4_again_51 rfl ?_
          refine G_aload_n hO dX4_again_52 rfl rfl ?_
          refine gr_X4_28 (c := 5) hO dX4_again_53 (ShC.c0 hC) rfl ?_
          refine G_iload_n hO dX4_again_56 rfl rfl ?_
          refine G_aload_n hO dX4_again_57 rfl rfl ?_
          refine gr_X4_43 (c := 39) hO dX4_again_58 (ShC.c0 hC) rfl ?_
          refine G_callVi hO dX4_again_61 h cl_X4_161 (ShC.f39 hC).1 rfl rfl (Nat.le_of_ble_eq_true rfl) (fun r18 w19 h => ?_) rfl
          obtain ⟨c20, h⟩ := h
          refine G_iastore hO dX4_again_64 (ShC.c5 hC) c20 ?_
          refine GG.nmw (fun w21 e22 => ?_)
          have h := h w21 e22
          refine G_iinc (v := (l2 + 1)) (lv2 := [some (.ref (gad Γ 0)), some (.int p1), some (.int (l2 + 1))]) hO dX4_again_65 rfl rfl (by decide) rfl rfl ?_
          refine GG.atpc (pc2 := 68) rfl ?_
          refine G_goto (tgt := 38) hO dX4_again_68 (by decide) ?_
          exact GG.sub (lv2 := [some (.ref (gad Γ 0)), some (.int p1), some (.int (l2 + 1))]) ⟨rfl, ⟨rfl, ⟨rfl, trivial⟩⟩⟩ h)
  refine G_iload_n hO dX4_again_0 rfl rfl ?_
  refine G_iconst (v := 0) hO dX4_again_1 rfl ?_
  refine G_iconst (v := 2) hO dX4_again_2 rfl ?_
  refine G_callSi hO dX4_again_3 h cl_X4_76 rfl (Nat.le_of_ble_eq_true rfl) (fun r1 w2 h => ?_) rfl
  refine G_if_ne (tgt := 12) hO dX4_again_6 (by decide) (fun c3 => ?_) (fun c3 => ?_)
  · have h := h.1 c3
    refine G_aload_n hO dX4_again_12 rfl rfl ?_
    refine gr_X4_43 (c := 39) hO dX4_again_13 (ShC.c0 hC) rfl ?_
    refine G_aload_n hO dX4_again_16 rfl rfl ?_
    refine gr_X4_39 (c := 32) hO dX4_again_17 (ShC.c0 hC) rfl ?_
    refine G_callVv hO dX4_again_20 h cl_X4_116 (ShC.f39 hC).1 rfl rfl (Nat.le_of_ble_eq_true rfl) (fun w5 h => ?_) rfl
    refine G_aload_n hO dX4_again_23 rfl rfl ?_
    refine gr_X4_28 (c := 5) hO dX4_again_24 (ShC.c0 hC) rfl ?_
    refine G_iconst (v := 0) hO dX4_again_27 rfl ?_
    refine G_aload_n hO dX4_again_28 rfl rfl ?_
    refine gr_X4_43 (c := 39) hO dX4_again_29 (ShC.c0 hC) rfl ?_
    refine G_callVi hO dX4_again_32 h cl_X4_161 (ShC.f39 hC).1 rfl rfl (Nat.le_of_ble_eq_true rfl) (fun r6 w7 h => ?_) rfl
    refine G_iastore hO dX4_again_35 (ShC.c5 hC) (by unfold vp_in; decide) ?_
    refine GG.nmw (fun w8 e9 => ?_)
    have h := h w8 e9
    refine GG.atpc (pc2 := 36) rfl ?_
    refine G_iconst (v := 1) hO dX4_again_36 rfl ?_
    refine G_istore_n (lv2 := [some (.ref (gad Γ 0)), some (.int p1), some (.int (1 : Int32))]) hO dX4_again_37 rfl (by decide) rfl rfl ?_
    exact GG.sub (lv2 := [some (.ref (gad Γ 0)), some (.int p1), some (.int (1 : Int32))]) ⟨rfl, ⟨rfl, ⟨rfl, trivial⟩⟩⟩ h
  · have h := h.2 c3
    refine G_bipush (v := -2) hO dX4_again_9 rfl ?_
    exact G_iret hO dX4_again_11 rfl rfl (QI.i h)
def wp_X4_firstDead (Γ : Gx) (d : Nat)  (w : Wd) (Q : Int32 → Wd → Prop) : Prop :=
  ∀ (P_2 : Int32 → Wd → Prop),
  (∀ (l1 : Int32) (w : Wd), (((40 : Int32) ≤ l1 → Q (-1 : Int32) w) ∧ (¬ (40 : Int32) ≤ l1 → (vp_in l1 41 ∧ (vp_in (l1 + (1 : Int32)) 41 ∧ ((¬ (w 5 (l1).toNatClampNeg) = (w 5 ((l1 + (1 : Int32))).toNatClampNeg) → P_2 (l1 + 1) w) ∧ ((w 5 (l1).toNatClampNeg) = (w 5 ((l1 + (1 : Int32))).toNatClampNeg) → Q l1 w)))))) → P_2 l1 w) →
  P_2 (0 : Int32) w
set_option maxRecDepth 20000 in
theorem con_X4_firstDead {Γ : Gx} {d : Nat} (hG : GC Γ)   {w : Wd} {Q : Int32 → Wd → Prop} (h : wp_X4_firstDead Γ d  w Q) : CI Γ (d + 1) M_X4_firstDead [.ref (gad Γ 0)] w Q := by
  have hC := hG.2.1
  refine Con.of RX4 cX4_firstDead 2 (some .int) [some (.ref (gad Γ 0)), none] rfl rfl (by decide +kernel) hG.1 (catR cat0) (Nat.le_of_ble_eq_true rfl) rfl ?_
  intro X hO
  have h := h
    (fun (l1 : Int32) (w : Wd) => GG Γ X (d + 1) 2 (QI Q) 2 [some (.ref (gad Γ 0)), some (.int l1)] [] w)
    (by
        intro l1 w h
        refine G_iload_n hO dX4_firstDead_2 rfl rfl ?_
        refine G_bipush (v := 40) hO dX4_firstDead_3 rfl ?_
        refine G_icmp_ge (tgt := 33) hO dX4_firstDead_5 (by decide) (fun c1 => ?_) (fun c1 => ?_)
        · have h := h.1 c1
          refine G_iconst (v := -1) hO dX4_firstDead_33 rfl ?_
          exact G_iret hO dX4_firstDead_34 rfl rfl (QI.i h)
        · have h := h.2 c1
          refine G_aload_n hO dX4_firstDead_8 rfl rfl ?_
          refine gr_X4_28 (c := 5) hO dX4_firstDead_9 (ShC.c0 hC) rfl ?_
          refine G_iload_n hO dX4_firstDead_12 rfl rfl ?_
          obtain ⟨c2, h⟩ := h
          refine G_iaload hO dX4_firstDead_13 (ShC.c5 hC) c2 ?_
          refine G_aload_n hO dX4_firstDead_14 rfl rfl ?_
          refine gr_X4_28 (c := 5) hO dX4_firstDead_15 (ShC.c0 hC) rfl ?_
          refine G_iload_n hO dX4_firstDead_18 rfl rfl ?_
          refine G_iconst (v := 1) hO dX4_firstDead_19 rfl ?_
          refine G_iadd hO dX4_firstDead_20 ?_
          obtain ⟨c3, h⟩ := h
          refine G_iaload hO dX4_firstDead_21 (ShC.c5 hC) c3 ?_
          refine G_icmp_ne (tgt := 27) hO dX4_firstDead_22 (by decide) (fun c4 => ?_) (fun c4 => ?_)
          · have h := h.1 c4
            refine G_iinc (v := (l1 + 1)) (lv2 := [some (.ref (gad Γ 0)), some (.int (l1 + 1))]) hO dX4_firstDead_27 rfl rfl (by decide) rfl rfl ?_
            refine G_goto (tgt := 2) hO dX4_firstDead_30 (by decide) ?_
            exact GG.sub (lv2 := [some (.ref (gad Γ 0)), some (.int (l1 + 1))]) ⟨rfl, ⟨rfl, trivial⟩⟩ h
          · have h := h.2 c4
            refine G_iload_n hO dX4_firstDead_25 rfl rfl ?_
            exact G_iret hO dX4_firstDead_26 rfl rfl (QI.i h))
  refine G_iconst (v := 0) hO dX4_firstDead_0 rfl ?_
  refine G_istore_n (lv2 := [some (.ref (gad Γ 0)), some (.int (0 : Int32))]) hO dX4_firstDead_1 rfl (by decide) rfl rfl ?_
  exact GG.sub (lv2 := [some (.ref (gad Γ 0)), some (.int (0 : Int32))]) ⟨rfl, ⟨rfl, trivial⟩⟩ h
def wp_X4_firstAgain (Γ : Gx) (d : Nat) (p1 : Int32) (w : Wd) (Q : Int32 → Wd → Prop) : Prop :=
  ∀ (P_2 : Int32 → Wd → Prop),
  ∀ (P_10 : Int32 → Int32 → Wd → Prop),
  (∀ (l2 : Int32) (w : Wd), (((40 : Int32) < l2 → Q (-1 : Int32) w) ∧ (¬ (40 : Int32) < l2 → P_10 l2 (0 : Int32) w)) → P_2 l2 w) →
  (∀ (l2 : Int32) (l3 : Int32) (w : Wd), ((l2 ≤ l3 → P_2 (l2 + 1) w) ∧ (¬ l2 ≤ l3 → (vp_in l3 41 ∧ (vp_in l2 41 ∧ ((¬ (w 5 (l3).toNatClampNeg) = (w 5 (l2).toNatClampNeg) → P_10 l2 (l3 + 1) w) ∧ ((w 5 (l3).toNatClampNeg) = (w 5 (l2).toNatClampNeg) → ((¬ p1 = 0 → Q (l2 - l3) w) ∧ (p1 = 0 → Q l2 w)))))))) → P_10 l2 l3 w) →
  P_2 (1 : Int32) w
set_option maxRecDepth 20000 in
theorem con_X4_firstAgain {Γ : Gx} {d : Nat} (hG : GC Γ) {p1 : Int32}  {w : Wd} {Q : Int32 → Wd → Prop} (h : wp_X4_firstAgain Γ d p1 w Q) : CI Γ (d + 1) M_X4_firstAgain [.ref (gad Γ 0), .int p1] w Q := by
  have hC := hG.2.1
  refine Con.of RX4 cX4_firstAgain 4 (some .int) [some (.ref (gad Γ 0)), some (.int p1), none, none] rfl rfl (by decide +kernel) hG.1 (catR (catI cat0)) (Nat.le_of_ble_eq_true rfl) rfl ?_
  intro X hO
  have h := h
    (fun (l2 : Int32) (w : Wd) => GG Γ X (d + 1) 4 (QI Q) 2 [some (.ref (gad Γ 0)), some (.int p1), some (.int l2), none] [] w)
    (fun (l2 : Int32) (l3 : Int32) (w : Wd) => GG Γ X (d + 1) 4 (QI Q) 10 [some (.ref (gad Γ 0)), some (.int p1), some (.int l2), some (.int l3)] [] w)
    (by
        intro l2 w h
        refine G_iload_n hO dX4_firstAgain_2 rfl rfl ?_
        refine G_bipush (v := 40) hO dX4_firstAgain_3 rfl ?_
        refine G_icmp_gt (tgt := 54) hO dX4_firstAgain_5 (by decide) (fun c1 => ?_) (fun c1 => ?_)
        · have h := h.1 c1
          refine G_iconst (v := -1) hO dX4_firstAgain_54 rfl ?_
          exact G_iret hO dX4_firstAgain_55 rfl rfl (QI.i h)
        · have h := h.2 c1
          refine G_iconst (v := 0) hO dX4_firstAgain_8 rfl ?_
          refine G_istore_n (lv2 := [some (.ref (gad Γ 0)), some (.int p1), some (.int l2), some (.int (0 : Int32))]) hO dX4_firstAgain_9 rfl (by decide) rfl rfl ?_
          exact GG.sub (lv2 := [some (.ref (gad Γ 0)), some (.int p1), some (.int l2), some (.int (0 : Int32))]) ⟨rfl, ⟨rfl, ⟨rfl, ⟨rfl, trivial⟩⟩⟩⟩ h)
    (by
        intro l2 l3 w h
        refine G_iload_n hO dX4_firstAgain_10 rfl rfl ?_
        refine G_iload_n hO dX4_firstAgain_11 rfl rfl ?_
        refine G_icmp_ge (tgt := 48) hO dX4_firstAgain_12 (by decide) (fun c2 => ?_) (fun c2 => ?_)
        · have h := h.1 c2
          refine G_iinc (v := (l2 + 1)) (lv2 := [some (.ref (gad Γ 0)), some (.int p1), some (.int (l2 + 1)), some (.int l3)]) hO dX4_firstAgain_48 rfl rfl (by decide) rfl rfl ?_
          refine G_goto (tgt := 2) hO dX4_firstAgain_51 (by decide) ?_
          exact GG.sub (lv2 := [some (.ref (gad Γ 0)), some (.int p1), some (.int (l2 + 1)), none]) ⟨rfl, ⟨rfl, ⟨rfl, trivial⟩⟩⟩ h
        · have h := h.2 c2
          refine G_aload_n hO dX4_firstAgain_15 rfl rfl ?_
          refine gr_X4_28 (c := 5) hO dX4_firstAgain_16 (ShC.c0 hC) rfl ?_
          refine G_iload_n hO dX4_firstAgain_19 rfl rfl ?_
          obtain ⟨c3, h⟩ := h
          refine G_iaload hO dX4_firstAgain_20 (ShC.c5 hC) c3 ?_
          refine G_aload_n hO dX4_firstAgain_21 rfl rfl ?_
          refine gr_X4_28 (c := 5) hO dX4_firstAgain_22 (ShC.c0 hC) rfl ?_
          refine G_iload_n hO dX4_firstAgain_25 rfl rfl ?_
          obtain ⟨c4, h⟩ := h
          refine G_iaload hO dX4_firstAgain_26 (ShC.c5 hC) c4 ?_
          refine G_icmp_ne (tgt := 42) hO dX4_firstAgain_27 (by decide) (fun c5 => ?_) (fun c5 => ?_)
          · have h := h.1 c5
            refine G_iinc (v := (l3 + 1)) (lv2 := [some (.ref (gad Γ 0)), some (.int p1), some (.int l2), some (.int (l3 + 1))]) hO dX4_firstAgain_42 rfl rfl (by decide) rfl rfl ?_
            refine G_goto (tgt := 10) hO dX4_firstAgain_45 (by decide) ?_
            exact GG.sub (lv2 := [some (.ref (gad Γ 0)), some (.int p1), some (.int l2), some (.int (l3 + 1))]) ⟨rfl, ⟨rfl, ⟨rfl, ⟨rfl, trivial⟩⟩⟩⟩ h
          · have h := h.2 c5
            refine G_iload_n hO dX4_firstAgain_30 rfl rfl ?_
            refine G_if_ne (tgt := 38) hO dX4_firstAgain_31 (by decide) (fun c6 => ?_) (fun c6 => ?_)
            · have h := h.1 c6
              refine G_iload_n hO dX4_firstAgain_38 rfl rfl ?_
              refine G_iload_n hO dX4_firstAgain_39 rfl rfl ?_
              refine G_isub hO dX4_firstAgain_40 ?_
              exact G_iret hO dX4_firstAgain_41 rfl rfl (QI.i h)
            · have h := h.2 c6
              refine G_iload_n hO dX4_firstAgain_34 rfl rfl ?_
              refine G_goto (tgt := 41) hO dX4_firstAgain_35 (by decide) ?_
              exact G_iret hO dX4_firstAgain_41 rfl rfl (QI.i h))
  refine G_iconst (v := 1) hO dX4_firstAgain_0 rfl ?_
  refine G_istore_n (lv2 := [some (.ref (gad Γ 0)), some (.int p1), some (.int (1 : Int32)), none]) hO dX4_firstAgain_1 rfl (by decide) rfl rfl ?_
  exact GG.sub (lv2 := [some (.ref (gad Γ 0)), some (.int p1), some (.int (1 : Int32)), none]) ⟨rfl, ⟨rfl, ⟨rfl, trivial⟩⟩⟩ h
def wp_X4_all (Γ : Gx) (d : Nat) (p1 : Int32) (w : Wd) (Q : Int32 → Wd → Prop) : Prop :=
  (((p1 = (0 : Int32)) → CI Γ d M_X0_glad [.ref (gad Γ 32)] w (fun r1 w2 => Q r1 w2)) ∧ ((p1 = (1 : Int32)) → CI Γ d M_X0_lettuceCount [.ref (gad Γ 32)] w (fun r3 w4 => Q r3 w4)) ∧ ((p1 = (2 : Int32)) → CI Γ d M_X0_lettuceFirst [.ref (gad Γ 32)] w (fun r5 w6 => Q r5 w6)) ∧ ((p1 = (3 : Int32)) → CI Γ d M_X0_leftAlone [.ref (gad Γ 32)] w (fun r7 w8 => Q r7 w8)) ∧ ((¬ p1 = (0 : Int32) ∧ ¬ p1 = (1 : Int32) ∧ ¬ p1 = (2 : Int32) ∧ ¬ p1 = (3 : Int32)) → Q (-1000 : Int32) w))
set_option maxRecDepth 20000 in
theorem con_X4_all {Γ : Gx} {d : Nat} (hG : GC Γ) {p1 : Int32}  {w : Wd} {Q : Int32 → Wd → Prop} (h : wp_X4_all Γ d p1 w Q) : CI Γ (d + 1) M_X4_all [.ref (gad Γ 0), .int p1] w Q := by
  have hC := hG.2.1
  refine Con.of RX4 cX4_all 2 (some .int) [some (.ref (gad Γ 0)), some (.int p1)] rfl rfl (by decide +kernel) hG.1 (catR (catI cat0)) (Nat.le_of_ble_eq_true rfl) rfl ?_
  intro X hO
  refine G_iload_n hO dX4_all_0 rfl rfl ?_
  by_cases e0 : p1 = (0 : Int32)
  · have h := h.1 e0
    refine G_tabIn (tgt := 32) (j := 0) hO dX4_all_1 (by decide) rfl (sweq e0 (by decide)) (by decide) ?_
    refine G_aload_n hO dX4_all_32 rfl rfl ?_
    refine gr_X4_39 (c := 32) hO dX4_all_33 (ShC.c0 hC) rfl ?_
    refine G_callVi hO dX4_all_36 h cl_X4_152 (ShC.f32 hC).1 rfl rfl (Nat.le_of_ble_eq_true rfl) (fun r1 w2 h => ?_) rfl
    exact G_iret hO dX4_all_39 rfl rfl (QI.i h)
  · by_cases e1 : p1 = (1 : Int32)
    · have h := h.2.1 e1
      refine G_tabIn (tgt := 40) (j := 1) hO dX4_all_1 (by decide) rfl (sweq e1 (by decide)) (by decide) ?_
      refine G_aload_n hO dX4_all_40 rfl rfl ?_
      refine gr_X4_39 (c := 32) hO dX4_all_41 (ShC.c0 hC) rfl ?_
      refine G_callVi hO dX4_all_44 h cl_X4_170 (ShC.f32 hC).1 rfl rfl (Nat.le_of_ble_eq_true rfl) (fun r3 w4 h => ?_) rfl
      exact G_iret hO dX4_all_47 rfl rfl (QI.i h)
    · by_cases e2 : p1 = (2 : Int32)
      · have h := h.2.2.1 e2
        refine G_tabIn (tgt := 48) (j := 2) hO dX4_all_1 (by decide) rfl (sweq e2 (by decide)) (by decide) ?_
        refine G_aload_n hO dX4_all_48 rfl rfl ?_
        refine gr_X4_39 (c := 32) hO dX4_all_49 (ShC.c0 hC) rfl ?_
        refine G_callVi hO dX4_all_52 h cl_X4_173 (ShC.f32 hC).1 rfl rfl (Nat.le_of_ble_eq_true rfl) (fun r5 w6 h => ?_) rfl
        exact G_iret hO dX4_all_55 rfl rfl (QI.i h)
      · by_cases e3 : p1 = (3 : Int32)
        · have h := h.2.2.2.1 e3
          refine G_tabIn (tgt := 56) (j := 3) hO dX4_all_1 (by decide) rfl (sweq e3 (by decide)) (by decide) ?_
          refine G_aload_n hO dX4_all_56 rfl rfl ?_
          refine gr_X4_39 (c := 32) hO dX4_all_57 (ShC.c0 hC) rfl ?_
          refine G_callVi hO dX4_all_60 h cl_X4_176 (ShC.f32 hC).1 rfl rfl (Nat.le_of_ble_eq_true rfl) (fun r7 w8 h => ?_) rfl
          exact G_iret hO dX4_all_63 rfl rfl (QI.i h)
        · have h := h.2.2.2.2 ⟨e0, e1, e2, e3⟩
          refine G_tabOut (tgt := 64) hO dX4_all_1 (by decide) (by decide) (fun j hj => ?_) ?_
          · rcases (show j = 0 ∨ j = 1 ∨ j = 2 ∨ j = 3 from by have : j < 4 := hj; omega) with rfl | rfl | rfl | rfl
            · exact swne e0 (by decide)
            · exact swne e1 (by decide)
            · exact swne e2 (by decide)
            · exact swne e3 (by decide)
          · refine G_sipush (v := -1000) hO dX4_all_64 rfl ?_
            exact G_iret hO dX4_all_67 rfl rfl (QI.i h)
def wp_X4_best (Γ : Gx) (d : Nat) (p1 : Int32) (p2 : Int32) (p3 : Int32) (w : Wd) (Q : Int32 → Wd → Prop) : Prop :=
  ∀ (P_43 : Int32 → Int32 → Int32 → Wd → Prop),
  (∀ (l4 : Int32) (l5 : Int32) (l6 : Int32) (w : Wd), (((20 : Int32) < l6 → ((¬ p3 = 0 → Q l4 w) ∧ (p3 = 0 → Q l5 w))) ∧ (¬ (20 : Int32) < l6 → CV Γ d M_X0_becomeLike [.ref (gad Γ 39), .ref (gad Γ 32)] w (fun w13 => (vp_in p1 5 ∧ (∀ w15 : Wd, w15 = wset w13 42 (p1).toNatClampNeg l6 → CI Γ d M_X0_gladBehind [.ref (gad Γ 39), .int p2] w15 (fun r17 w18 => ((r17 ≤ l4 → P_43 l4 l5 (l6 + 1) w18) ∧ (¬ r17 ≤ l4 → P_43 r17 l6 (l6 + 1) w18)))))))) → P_43 l4 l5 l6 w) →
  CI Γ d M_X4_isPerson [.ref (gad Γ 0), .int p1] w (fun r1 w2 => ((r1 = 0 → Q (-1000 : Int32) w2) ∧ (¬ r1 = 0 → CI Γ d M_X4_isIn [.int p2, .int (0 : Int32), .int (10 : Int32)] w2 (fun r4 w5 => ((r4 = 0 → Q (-1000 : Int32) w5) ∧ (¬ r4 = 0 → CI Γ d M_X4_isIn [.int p3, .int (0 : Int32), .int (1 : Int32)] w5 (fun r7 w8 => ((¬ r7 = 0 → P_43 (-101 : Int32) (-100 : Int32) (-20 : Int32) w8) ∧ (r7 = 0 → Q (-1000 : Int32) w8)))))))))
set_option maxRecDepth 20000 in
theorem con_X4_best {Γ : Gx} {d : Nat} (hG : GC Γ) {p1 : Int32} {p2 : Int32} {p3 : Int32}  {w : Wd} {Q : Int32 → Wd → Prop} (h : wp_X4_best Γ d p1 p2 p3 w Q) : CI Γ (d + 1) M_X4_best [.ref (gad Γ 0), .int p1, .int p2, .int p3] w Q := by
  have hC := hG.2.1
  refine Con.of RX4 cX4_best 8 (some .int) [some (.ref (gad Γ 0)), some (.int p1), some (.int p2), some (.int p3), none, none, none, none] rfl rfl (by decide +kernel) hG.1 (catR (catI (catI (catI cat0)))) (Nat.le_of_ble_eq_true rfl) rfl ?_
  intro X hO
  have h := h
    (fun (l4 : Int32) (l5 : Int32) (l6 : Int32) (w : Wd) => GG Γ X (d + 1) 8 (QI Q) 43 [some (.ref (gad Γ 0)), some (.int p1), some (.int p2), some (.int p3), some (.int l4), some (.int l5), some (.int l6), none] [] w)
    (by
        intro l4 l5 l6 w h
        refine G_iload hO dX4_best_43 rfl ?_
        refine G_bipush (v := 20) hO dX4_best_45 rfl ?_
        refine G_icmp_gt (tgt := 103) hO dX4_best_47 (by decide) (fun c10 => ?_) (fun c10 => ?_)
        · have h := h.1 c10
          refine G_iload_n hO dX4_best_103 rfl rfl ?_
          refine G_if_ne (tgt := 112) hO dX4_best_104 (by decide) (fun c11 => ?_) (fun c11 => ?_)
          · have h := h.1 c11
            refine G_iload hO dX4_best_112 rfl ?_
            exact G_iret hO dX4_best_114 rfl rfl (QI.i h)
          · have h := h.2 c11
            refine G_iload hO dX4_best_107 rfl ?_
            refine G_goto (tgt := 114) hO dX4_best_109 (by decide) ?_
            exact G_iret hO dX4_best_114 rfl rfl (QI.i h)
        · have h := h.2 c10
          refine G_aload_n hO dX4_best_50 rfl rfl ?_
          refine gr_X4_43 (c := 39) hO dX4_best_51 (ShC.c0 hC) rfl ?_
          refine G_aload_n hO dX4_best_54 rfl rfl ?_
          refine gr_X4_39 (c := 32) hO dX4_best_55 (ShC.c0 hC) rfl ?_
          refine G_callVv hO dX4_best_58 h cl_X4_116 (ShC.f39 hC).1 rfl rfl (Nat.le_of_ble_eq_true rfl) (fun w13 h => ?_) rfl
          refine G_aload_n hO dX4_best_61 rfl rfl ?_
          refine gr_X4_43 (c := 39) hO dX4_best_62 (ShC.c0 hC) rfl ?_
          refine gr_X4_100 (c := 42) hO dX4_best_65 (ShC.f39 hC).1 rfl ?_
          refine G_iload_n hO dX4_best_68 rfl rfl ?_
          refine G_iload hO dX4_best_69 rfl ?_
          obtain ⟨c14, h⟩ := h
          refine G_iastore hO dX4_best_71 (ShC.f39 hC).2.2.2.1 c14 ?_
          refine GG.nmw (fun w15 e16 => ?_)
          have h := h w15 e16
          refine G_aload_n hO dX4_best_72 rfl rfl ?_
          refine GG.atpc (pc2 := 73) rfl ?_
          refine gr_X4_43 (c := 39) hO dX4_best_73 (ShC.c0 hC) rfl ?_
          refine G_iload_n hO dX4_best_76 rfl rfl ?_
          refine G_callVi hO dX4_best_77 h cl_X4_158 (ShC.f39 hC).1 rfl rfl (Nat.le_of_ble_eq_true rfl) (fun r17 w18 h => ?_) rfl
          refine G_istore (lv2 := [some (.ref (gad Γ 0)), some (.int p1), some (.int p2), some (.int p3), some (.int l4), some (.int l5), some (.int l6), some (.int r17)]) hO dX4_best_80 (by decide) rfl rfl ?_
          refine G_iload hO dX4_best_82 rfl ?_
          refine G_iload hO dX4_best_84 rfl ?_
          refine G_icmp_le (tgt := 97) hO dX4_best_86 (by decide) (fun c19 => ?_) (fun c19 => ?_)
          · have h := h.1 c19
            refine G_iinc (v := (l6 + 1)) (lv2 := [some (.ref (gad Γ 0)), some (.int p1), some (.int p2), some (.int p3), some (.int l4), some (.int l5), some (.int (l6 + 1)), some (.int r17)]) hO dX4_best_97 rfl rfl (by decide) rfl rfl ?_
            refine G_goto (tgt := 43) hO dX4_best_100 (by decide) ?_
            exact GG.sub (lv2 := [some (.ref (gad Γ 0)), some (.int p1), some (.int p2), some (.int p3), some (.int l4), some (.int l5), some (.int (l6 + 1)), none]) ⟨rfl, ⟨rfl, ⟨rfl, ⟨rfl, ⟨rfl, ⟨rfl, ⟨rfl, trivial⟩⟩⟩⟩⟩⟩⟩ h
          · have h := h.2 c19
            refine G_iload hO dX4_best_89 rfl ?_
            refine G_istore (lv2 := [some (.ref (gad Γ 0)), some (.int p1), some (.int p2), some (.int p3), some (.int r17), some (.int l5), some (.int l6), some (.int r17)]) hO dX4_best_91 (by decide) rfl rfl ?_
            refine G_iload hO dX4_best_93 rfl ?_
            refine G_istore (lv2 := [some (.ref (gad Γ 0)), some (.int p1), some (.int p2), some (.int p3), some (.int r17), some (.int l6), some (.int l6), some (.int r17)]) hO dX4_best_95 (by decide) rfl rfl ?_
            refine G_iinc (v := (l6 + 1)) (lv2 := [some (.ref (gad Γ 0)), some (.int p1), some (.int p2), some (.int p3), some (.int r17), some (.int l6), some (.int (l6 + 1)), some (.int r17)]) hO dX4_best_97 rfl rfl (by decide) rfl rfl ?_
            refine G_goto (tgt := 43) hO dX4_best_100 (by decide) ?_
            exact GG.sub (lv2 := [some (.ref (gad Γ 0)), some (.int p1), some (.int p2), some (.int p3), some (.int r17), some (.int l6), some (.int (l6 + 1)), none]) ⟨rfl, ⟨rfl, ⟨rfl, ⟨rfl, ⟨rfl, ⟨rfl, ⟨rfl, trivial⟩⟩⟩⟩⟩⟩⟩ h)
  refine G_aload_n hO dX4_best_0 rfl rfl ?_
  refine G_iload_n hO dX4_best_1 rfl rfl ?_
  refine G_callVi hO dX4_best_2 h cl_X4_124 (ShC.c0 hC) rfl rfl (Nat.le_of_ble_eq_true rfl) (fun r1 w2 h => ?_) rfl
  refine G_if_eq (tgt := 27) hO dX4_best_5 (by decide) (fun c3 => ?_) (fun c3 => ?_)
  · have h := h.1 c3
    refine G_sipush (v := -1000) hO dX4_best_27 rfl ?_
    exact G_iret hO dX4_best_30 rfl rfl (QI.i h)
  · have h := h.2 c3
    refine G_iload_n hO dX4_best_8 rfl rfl ?_
    refine G_iconst (v := 0) hO dX4_best_9 rfl ?_
    refine G_bipush (v := 10) hO dX4_best_10 rfl ?_
    refine G_callSi hO dX4_best_12 h cl_X4_76 rfl (Nat.le_of_ble_eq_true rfl) (fun r4 w5 h => ?_) rfl
    refine G_if_eq (tgt := 27) hO dX4_best_15 (by decide) (fun c6 => ?_) (fun c6 => ?_)
    · have h := h.1 c6
      refine G_sipush (v := -1000) hO dX4_best_27 rfl ?_
      exact G_iret hO dX4_best_30 rfl rfl (QI.i h)
    · have h := h.2 c6
      refine G_iload_n hO dX4_best_18 rfl rfl ?_
      refine G_iconst (v := 0) hO dX4_best_19 rfl ?_
      refine G_iconst (v := 1) hO dX4_best_20 rfl ?_
      refine G_callSi hO dX4_best_21 h cl_X4_76 rfl (Nat.le_of_ble_eq_true rfl) (fun r7 w8 h => ?_) rfl
      refine G_if_ne (tgt := 31) hO dX4_best_24 (by decide) (fun c9 => ?_) (fun c9 => ?_)
      · have h := h.1 c9
        refine G_bipush (v := -101) hO dX4_best_31 rfl ?_
        refine G_istore (lv2 := [some (.ref (gad Γ 0)), some (.int p1), some (.int p2), some (.int p3), some (.int (-101 : Int32)), none, none, none]) hO dX4_best_33 (by decide) rfl rfl ?_
        refine G_bipush (v := -100) hO dX4_best_35 rfl ?_
        refine G_istore (lv2 := [some (.ref (gad Γ 0)), some (.int p1), some (.int p2), some (.int p3), some (.int (-101 : Int32)), some (.int (-100 : Int32)), none, none]) hO dX4_best_37 (by decide) rfl rfl ?_
        refine G_bipush (v := -20) hO dX4_best_39 rfl ?_
        refine G_istore (lv2 := [some (.ref (gad Γ 0)), some (.int p1), some (.int p2), some (.int p3), some (.int (-101 : Int32)), some (.int (-100 : Int32)), some (.int (-20 : Int32)), none]) hO dX4_best_41 (by decide) rfl rfl ?_
        exact GG.sub (lv2 := [some (.ref (gad Γ 0)), some (.int p1), some (.int p2), some (.int p3), some (.int (-101 : Int32)), some (.int (-100 : Int32)), some (.int (-20 : Int32)), none]) ⟨rfl, ⟨rfl, ⟨rfl, ⟨rfl, ⟨rfl, ⟨rfl, ⟨rfl, trivial⟩⟩⟩⟩⟩⟩⟩ h
      · have h := h.2 c9
        refine G_sipush (v := -1000) hO dX4_best_27 rfl ?_
        exact G_iret hO dX4_best_30 rfl rfl (QI.i h)
def wp_X4_leaveOut (Γ : Gx) (d : Nat) (p1 : Int32) (p2 : Int32) (w : Wd) (Q : Int32 → Wd → Prop) : Prop :=
  ∀ (P_35 : Int32 → Int32 → Int32 → Wd → Prop),
  (∀ (l3 : Int32) (l4 : Int32) (l5 : Int32) (w : Wd), (((w 32 4) ≤ l5 → ((¬ p2 = 0 → Q l3 w) ∧ (p2 = 0 → Q l4 w))) ∧ (¬ (w 32 4) ≤ l5 → CV Γ d M_X0_becomeLike [.ref (gad Γ 39), .ref (gad Γ 32)] w (fun w12 => (∀ w13 : Wd, w13 = wset w12 39 8 l5 → CI Γ d M_X0_gladBehind [.ref (gad Γ 39), .int p1] w13 (fun r15 w16 => ((r15 ≤ l3 → P_35 l3 l4 (l5 + 1) w16) ∧ (¬ r15 ≤ l3 → P_35 r15 l5 (l5 + 1) w16))))))) → P_35 l3 l4 l5 w) →
  CI Γ d M_X4_isIn [.int p1, .int (0 : Int32), .int (40 : Int32)] w (fun r1 w2 => ((r1 = 0 → Q (-1000 : Int32) w2) ∧ (¬ r1 = 0 → CI Γ d M_X4_isIn [.int p2, .int (0 : Int32), .int (1 : Int32)] w2 (fun r4 w5 => ((¬ r4 = 0 → CI Γ d M_X4_gladAsItIs [.ref (gad Γ 0), .int p1] w5 (fun r7 w8 => P_35 r7 (-1 : Int32) (0 : Int32) w8)) ∧ (r4 = 0 → Q (-1000 : Int32) w5))))))
set_option maxRecDepth 20000 in
theorem con_X4_leaveOut {Γ : Gx} {d : Nat} (hG : GC Γ) {p1 : Int32} {p2 : Int32}  {w : Wd} {Q : Int32 → Wd → Prop} (h : wp_X4_leaveOut Γ d p1 p2 w Q) : CI Γ (d + 1) M_X4_leaveOut [.ref (gad Γ 0), .int p1, .int p2] w Q := by
  have hC := hG.2.1
  refine Con.of RX4 cX4_leaveOut 7 (some .int) [some (.ref (gad Γ 0)), some (.int p1), some (.int p2), none, none, none, none] rfl rfl (by decide +kernel) hG.1 (catR (catI (catI cat0))) (Nat.le_of_ble_eq_true rfl) rfl ?_
  intro X hO
  have h := h
    (fun (l3 : Int32) (l4 : Int32) (l5 : Int32) (w : Wd) => GG Γ X (d + 1) 7 (QI Q) 35 [some (.ref (gad Γ 0)), some (.int p1), some (.int p2), some (.int l3), some (.int l4), some (.int l5), none] [] w)
    (by
        intro l3 l4 l5 w h
        refine G_iload hO dX4_leaveOut_35 rfl ?_
        refine G_aload_n hO dX4_leaveOut_37 rfl rfl ?_
        refine gr_X4_39 (c := 32) hO dX4_leaveOut_38 (ShC.c0 hC) rfl ?_
        refine gi_X4_127 hO dX4_leaveOut_41 (ShC.f32 hC).1 rfl ?_
        refine G_icmp_ge (tgt := 96) hO dX4_leaveOut_44 (by decide) (fun c9 => ?_) (fun c9 => ?_)
        · have h := h.1 c9
          refine G_iload_n hO dX4_leaveOut_96 rfl rfl ?_
          refine G_if_ne (tgt := 105) hO dX4_leaveOut_97 (by decide) (fun c10 => ?_) (fun c10 => ?_)
          · have h := h.1 c10
            refine G_iload_n hO dX4_leaveOut_105 rfl rfl ?_
            exact G_iret hO dX4_leaveOut_106 rfl rfl (QI.i h)
          · have h := h.2 c10
            refine G_iload hO dX4_leaveOut_100 rfl ?_
            refine G_goto (tgt := 106) hO dX4_leaveOut_102 (by decide) ?_
            exact G_iret hO dX4_leaveOut_106 rfl rfl (QI.i h)
        · have h := h.2 c9
          refine G_aload_n hO dX4_leaveOut_47 rfl rfl ?_
          refine gr_X4_43 (c := 39) hO dX4_leaveOut_48 (ShC.c0 hC) rfl ?_
          refine G_aload_n hO dX4_leaveOut_51 rfl rfl ?_
          refine gr_X4_39 (c := 32) hO dX4_leaveOut_52 (ShC.c0 hC) rfl ?_
          refine G_callVv hO dX4_leaveOut_55 h cl_X4_116 (ShC.f39 hC).1 rfl rfl (Nat.le_of_ble_eq_true rfl) (fun w12 h => ?_) rfl
          refine G_aload_n hO dX4_leaveOut_58 rfl rfl ?_
          refine gr_X4_43 (c := 39) hO dX4_leaveOut_59 (ShC.c0 hC) rfl ?_
          refine G_iload hO dX4_leaveOut_62 rfl ?_
          refine pi_X4_182 hO dX4_leaveOut_64 (ShC.f39 hC).1 rfl ?_
          refine GG.nmw (fun w13 e14 => ?_)
          have h := h w13 e14
          refine G_aload_n hO dX4_leaveOut_67 rfl rfl ?_
          refine gr_X4_43 (c := 39) hO dX4_leaveOut_68 (ShC.c0 hC) rfl ?_
          refine G_iload_n hO dX4_leaveOut_71 rfl rfl ?_
          refine GG.atpc (pc2 := 72) rfl ?_
          refine G_callVi hO dX4_leaveOut_72 h cl_X4_158 (ShC.f39 hC).1 rfl rfl (Nat.le_of_ble_eq_true rfl) (fun r15 w16 h => ?_) rfl
          refine G_istore (lv2 := [some (.ref (gad Γ 0)), some (.int p1), some (.int p2), some (.int l3), some (.int l4), some (.int l5), some (.int r15)]) hO dX4_leaveOut_75 (by decide) rfl rfl ?_
          refine G_iload hO dX4_leaveOut_77 rfl ?_
          refine G_iload_n hO dX4_leaveOut_79 rfl rfl ?_
          refine G_icmp_le (tgt := 90) hO dX4_leaveOut_80 (by decide) (fun c17 => ?_) (fun c17 => ?_)
          · have h := h.1 c17
            refine G_iinc (v := (l5 + 1)) (lv2 := [some (.ref (gad Γ 0)), some (.int p1), some (.int p2), some (.int l3), some (.int l4), some (.int (l5 + 1)), some (.int r15)]) hO dX4_leaveOut_90 rfl rfl (by decide) rfl rfl ?_
            refine G_goto (tgt := 35) hO dX4_leaveOut_93 (by decide) ?_
            exact GG.sub (lv2 := [some (.ref (gad Γ 0)), some (.int p1), some (.int p2), some (.int l3), some (.int l4), some (.int (l5 + 1)), none]) ⟨rfl, ⟨rfl, ⟨rfl, ⟨rfl, ⟨rfl, ⟨rfl, trivial⟩⟩⟩⟩⟩⟩ h
          · have h := h.2 c17
            refine G_iload hO dX4_leaveOut_83 rfl ?_
            refine G_istore_n (lv2 := [some (.ref (gad Γ 0)), some (.int p1), some (.int p2), some (.int r15), some (.int l4), some (.int l5), some (.int r15)]) hO dX4_leaveOut_85 rfl (by decide) rfl rfl ?_
            refine G_iload hO dX4_leaveOut_86 rfl ?_
            refine G_istore (lv2 := [some (.ref (gad Γ 0)), some (.int p1), some (.int p2), some (.int r15), some (.int l5), some (.int l5), some (.int r15)]) hO dX4_leaveOut_88 (by decide) rfl rfl ?_
            refine G_iinc (v := (l5 + 1)) (lv2 := [some (.ref (gad Γ 0)), some (.int p1), some (.int p2), some (.int r15), some (.int l5), some (.int (l5 + 1)), some (.int r15)]) hO dX4_leaveOut_90 rfl rfl (by decide) rfl rfl ?_
            refine G_goto (tgt := 35) hO dX4_leaveOut_93 (by decide) ?_
            exact GG.sub (lv2 := [some (.ref (gad Γ 0)), some (.int p1), some (.int p2), some (.int r15), some (.int l5), some (.int (l5 + 1)), none]) ⟨rfl, ⟨rfl, ⟨rfl, ⟨rfl, ⟨rfl, ⟨rfl, trivial⟩⟩⟩⟩⟩⟩ h)
  refine G_iload_n hO dX4_leaveOut_0 rfl rfl ?_
  refine G_iconst (v := 0) hO dX4_leaveOut_1 rfl ?_
  refine G_bipush (v := 40) hO dX4_leaveOut_2 rfl ?_
  refine G_callSi hO dX4_leaveOut_4 h cl_X4_76 rfl (Nat.le_of_ble_eq_true rfl) (fun r1 w2 h => ?_) rfl
  refine G_if_eq (tgt := 19) hO dX4_leaveOut_7 (by decide) (fun c3 => ?_) (fun c3 => ?_)
  · have h := h.1 c3
    refine G_sipush (v := -1000) hO dX4_leaveOut_19 rfl ?_
    exact G_iret hO dX4_leaveOut_22 rfl rfl (QI.i h)
  · have h := h.2 c3
    refine G_iload_n hO dX4_leaveOut_10 rfl rfl ?_
    refine G_iconst (v := 0) hO dX4_leaveOut_11 rfl ?_
    refine G_iconst (v := 1) hO dX4_leaveOut_12 rfl ?_
    refine G_callSi hO dX4_leaveOut_13 h cl_X4_76 rfl (Nat.le_of_ble_eq_true rfl) (fun r4 w5 h => ?_) rfl
    refine G_if_ne (tgt := 23) hO dX4_leaveOut_16 (by decide) (fun c6 => ?_) (fun c6 => ?_)
    · have h := h.1 c6
      refine G_aload_n hO dX4_leaveOut_23 rfl rfl ?_
      refine G_iload_n hO dX4_leaveOut_24 rfl rfl ?_
      refine G_callVi hO dX4_leaveOut_25 h cl_X4_179 (ShC.c0 hC) rfl rfl (Nat.le_of_ble_eq_true rfl) (fun r7 w8 h => ?_) rfl
      refine G_istore_n (lv2 := [some (.ref (gad Γ 0)), some (.int p1), some (.int p2), some (.int r7), none, none, none]) hO dX4_leaveOut_28 rfl (by decide) rfl rfl ?_
      refine G_iconst (v := -1) hO dX4_leaveOut_29 rfl ?_
      refine G_istore (lv2 := [some (.ref (gad Γ 0)), some (.int p1), some (.int p2), some (.int r7), some (.int (-1 : Int32)), none, none]) hO dX4_leaveOut_30 (by decide) rfl rfl ?_
      refine G_iconst (v := 0) hO dX4_leaveOut_32 rfl ?_
      refine G_istore (lv2 := [some (.ref (gad Γ 0)), some (.int p1), some (.int p2), some (.int r7), some (.int (-1 : Int32)), some (.int (0 : Int32)), none]) hO dX4_leaveOut_33 (by decide) rfl rfl ?_
      exact GG.sub (lv2 := [some (.ref (gad Γ 0)), some (.int p1), some (.int p2), some (.int r7), some (.int (-1 : Int32)), some (.int (0 : Int32)), none]) ⟨rfl, ⟨rfl, ⟨rfl, ⟨rfl, ⟨rfl, ⟨rfl, trivial⟩⟩⟩⟩⟩⟩ h
    · have h := h.2 c6
      refine G_sipush (v := -1000) hO dX4_leaveOut_19 rfl ?_
      exact G_iret hO dX4_leaveOut_22 rfl rfl (QI.i h)
def wp_X4_spare (Γ : Gx) (d : Nat) (p1 : Int32) (p2 : Int32) (w : Wd) (Q : Int32 → Wd → Prop) : Prop :=
  ∀ (P_35 : Int32 → Int32 → Int32 → Wd → Prop),
  (∀ (l3 : Int32) (l4 : Int32) (l5 : Int32) (w : Wd), (((8 : Int32) ≤ l5 → ((¬ p2 = 0 → Q l3 w) ∧ (p2 = 0 → Q l4 w))) ∧ (¬ (8 : Int32) ≤ l5 → CV Γ d M_X0_becomeLike [.ref (gad Γ 39), .ref (gad Γ 32)] w (fun w12 => (∀ w13 : Wd, w13 = wset w12 39 5 ((w12 32 5) &&& (((1 : Int32) <<< (l5 &&& 31)) ^^^ (-1 : Int32))) → CI Γ d M_X0_gladBehind [.ref (gad Γ 39), .int p1] w13 (fun r15 w16 => ((r15 ≤ l3 → P_35 l3 l4 (l5 + 1) w16) ∧ (¬ r15 ≤ l3 → P_35 r15 l5 (l5 + 1) w16))))))) → P_35 l3 l4 l5 w) →
  CI Γ d M_X4_isIn [.int p1, .int (0 : Int32), .int (40 : Int32)] w (fun r1 w2 => ((r1 = 0 → Q (-1000 : Int32) w2) ∧ (¬ r1 = 0 → CI Γ d M_X4_isIn [.int p2, .int (0 : Int32), .int (1 : Int32)] w2 (fun r4 w5 => ((¬ r4 = 0 → CI Γ d M_X4_gladAsItIs [.ref (gad Γ 0), .int p1] w5 (fun r7 w8 => P_35 r7 (-1 : Int32) (0 : Int32) w8)) ∧ (r4 = 0 → Q (-1000 : Int32) w5))))))
set_option maxRecDepth 20000 in
theorem con_X4_spare {Γ : Gx} {d : Nat} (hG : GC Γ) {p1 : Int32} {p2 : Int32}  {w : Wd} {Q : Int32 → Wd → Prop} (h : wp_X4_spare Γ d p1 p2 w Q) : CI Γ (d + 1) M_X4_spare [.ref (gad Γ 0), .int p1, .int p2] w Q := by
  have hC := hG.2.1
  refine Con.of RX4 cX4_spare 7 (some .int) [some (.ref (gad Γ 0)), some (.int p1), some (.int p2), none, none, none, none] rfl rfl (by decide +kernel) hG.1 (catR (catI (catI cat0))) (Nat.le_of_ble_eq_true rfl) rfl ?_
  intro X hO
  have h := h
    (fun (l3 : Int32) (l4 : Int32) (l5 : Int32) (w : Wd) => GG Γ X (d + 1) 7 (QI Q) 35 [some (.ref (gad Γ 0)), some (.int p1), some (.int p2), some (.int l3), some (.int l4), some (.int l5), none] [] w)
    (by
        intro l3 l4 l5 w h
        refine G_iload hO dX4_spare_35 rfl ?_
        refine G_bipush (v := 8) hO dX4_spare_37 rfl ?_
        refine G_icmp_ge (tgt := 103) hO dX4_spare_39 (by decide) (fun c9 => ?_) (fun c9 => ?_)
        · have h := h.1 c9
          refine G_iload_n hO dX4_spare_103 rfl rfl ?_
          refine G_if_ne (tgt := 112) hO dX4_spare_104 (by decide) (fun c10 => ?_) (fun c10 => ?_)
          · have h := h.1 c10
            refine G_iload_n hO dX4_spare_112 rfl rfl ?_
            exact G_iret hO dX4_spare_113 rfl rfl (QI.i h)
          · have h := h.2 c10
            refine G_iload hO dX4_spare_107 rfl ?_
            refine G_goto (tgt := 113) hO dX4_spare_109 (by decide) ?_
            exact G_iret hO dX4_spare_113 rfl rfl (QI.i h)
        · have h := h.2 c9
          refine G_aload_n hO dX4_spare_42 rfl rfl ?_
          refine gr_X4_43 (c := 39) hO dX4_spare_43 (ShC.c0 hC) rfl ?_
          refine G_aload_n hO dX4_spare_46 rfl rfl ?_
          refine gr_X4_39 (c := 32) hO dX4_spare_47 (ShC.c0 hC) rfl ?_
          refine G_callVv hO dX4_spare_50 h cl_X4_116 (ShC.f39 hC).1 rfl rfl (Nat.le_of_ble_eq_true rfl) (fun w12 h => ?_) rfl
          refine G_aload_n hO dX4_spare_53 rfl rfl ?_
          refine gr_X4_43 (c := 39) hO dX4_spare_54 (ShC.c0 hC) rfl ?_
          refine G_aload_n hO dX4_spare_57 rfl rfl ?_
          refine gr_X4_39 (c := 32) hO dX4_spare_58 (ShC.c0 hC) rfl ?_
          refine gi_X4_94 hO dX4_spare_61 (ShC.f32 hC).1 rfl ?_
          refine G_iconst (v := 1) hO dX4_spare_64 rfl ?_
          refine G_iload hO dX4_spare_65 rfl ?_
          refine GG.atpc (pc2 := 67) rfl ?_
          refine G_ishl hO dX4_spare_67 ?_
          refine G_iconst (v := -1) hO dX4_spare_68 rfl ?_
          refine G_ixor hO dX4_spare_69 ?_
          refine G_iand hO dX4_spare_70 ?_
          refine pi_X4_94 hO dX4_spare_71 (ShC.f39 hC).1 rfl ?_
          refine GG.nmw (fun w13 e14 => ?_)
          have h := h w13 e14
          refine G_aload_n hO dX4_spare_74 rfl rfl ?_
          refine gr_X4_43 (c := 39) hO dX4_spare_75 (ShC.c0 hC) rfl ?_
          refine G_iload_n hO dX4_spare_78 rfl rfl ?_
          refine G_callVi hO dX4_spare_79 h cl_X4_158 (ShC.f39 hC).1 rfl rfl (Nat.le_of_ble_eq_true rfl) (fun r15 w16 h => ?_) rfl
          refine G_istore (lv2 := [some (.ref (gad Γ 0)), some (.int p1), some (.int p2), some (.int l3), some (.int l4), some (.int l5), some (.int r15)]) hO dX4_spare_82 (by decide) rfl rfl ?_
          refine G_iload hO dX4_spare_84 rfl ?_
          refine G_iload_n hO dX4_spare_86 rfl rfl ?_
          refine GG.atpc (pc2 := 87) rfl ?_
          refine G_icmp_le (tgt := 97) hO dX4_spare_87 (by decide) (fun c17 => ?_) (fun c17 => ?_)
          · have h := h.1 c17
            refine G_iinc (v := (l5 + 1)) (lv2 := [some (.ref (gad Γ 0)), some (.int p1), some (.int p2), some (.int l3), some (.int l4), some (.int (l5 + 1)), some (.int r15)]) hO dX4_spare_97 rfl rfl (by decide) rfl rfl ?_
            refine G_goto (tgt := 35) hO dX4_spare_100 (by decide) ?_
            exact GG.sub (lv2 := [some (.ref (gad Γ 0)), some (.int p1), some (.int p2), some (.int l3), some (.int l4), some (.int (l5 + 1)), none]) ⟨rfl, ⟨rfl, ⟨rfl, ⟨rfl, ⟨rfl, ⟨rfl, trivial⟩⟩⟩⟩⟩⟩ h
          · have h := h.2 c17
            refine G_iload hO dX4_spare_90 rfl ?_
            refine G_istore_n (lv2 := [some (.ref (gad Γ 0)), some (.int p1), some (.int p2), some (.int r15), some (.int l4), some (.int l5), some (.int r15)]) hO dX4_spare_92 rfl (by decide) rfl rfl ?_
            refine G_iload hO dX4_spare_93 rfl ?_
            refine G_istore (lv2 := [some (.ref (gad Γ 0)), some (.int p1), some (.int p2), some (.int r15), some (.int l5), some (.int l5), some (.int r15)]) hO dX4_spare_95 (by decide) rfl rfl ?_
            refine G_iinc (v := (l5 + 1)) (lv2 := [some (.ref (gad Γ 0)), some (.int p1), some (.int p2), some (.int r15), some (.int l5), some (.int (l5 + 1)), some (.int r15)]) hO dX4_spare_97 rfl rfl (by decide) rfl rfl ?_
            refine G_goto (tgt := 35) hO dX4_spare_100 (by decide) ?_
            exact GG.sub (lv2 := [some (.ref (gad Γ 0)), some (.int p1), some (.int p2), some (.int r15), some (.int l5), some (.int (l5 + 1)), none]) ⟨rfl, ⟨rfl, ⟨rfl, ⟨rfl, ⟨rfl, ⟨rfl, trivial⟩⟩⟩⟩⟩⟩ h)
  refine G_iload_n hO dX4_spare_0 rfl rfl ?_
  refine G_iconst (v := 0) hO dX4_spare_1 rfl ?_
  refine G_bipush (v := 40) hO dX4_spare_2 rfl ?_
  refine G_callSi hO dX4_spare_4 h cl_X4_76 rfl (Nat.le_of_ble_eq_true rfl) (fun r1 w2 h => ?_) rfl
  refine G_if_eq (tgt := 19) hO dX4_spare_7 (by decide) (fun c3 => ?_) (fun c3 => ?_)
  · have h := h.1 c3
    refine G_sipush (v := -1000) hO dX4_spare_19 rfl ?_
    exact G_iret hO dX4_spare_22 rfl rfl (QI.i h)
  · have h := h.2 c3
    refine G_iload_n hO dX4_spare_10 rfl rfl ?_
    refine G_iconst (v := 0) hO dX4_spare_11 rfl ?_
    refine G_iconst (v := 1) hO dX4_spare_12 rfl ?_
    refine G_callSi hO dX4_spare_13 h cl_X4_76 rfl (Nat.le_of_ble_eq_true rfl) (fun r4 w5 h => ?_) rfl
    refine G_if_ne (tgt := 23) hO dX4_spare_16 (by decide) (fun c6 => ?_) (fun c6 => ?_)
    · have h := h.1 c6
      refine G_aload_n hO dX4_spare_23 rfl rfl ?_
      refine G_iload_n hO dX4_spare_24 rfl rfl ?_
      refine G_callVi hO dX4_spare_25 h cl_X4_179 (ShC.c0 hC) rfl rfl (Nat.le_of_ble_eq_true rfl) (fun r7 w8 h => ?_) rfl
      refine G_istore_n (lv2 := [some (.ref (gad Γ 0)), some (.int p1), some (.int p2), some (.int r7), none, none, none]) hO dX4_spare_28 rfl (by decide) rfl rfl ?_
      refine G_iconst (v := -1) hO dX4_spare_29 rfl ?_
      refine G_istore (lv2 := [some (.ref (gad Γ 0)), some (.int p1), some (.int p2), some (.int r7), some (.int (-1 : Int32)), none, none]) hO dX4_spare_30 (by decide) rfl rfl ?_
      refine G_iconst (v := 0) hO dX4_spare_32 rfl ?_
      refine G_istore (lv2 := [some (.ref (gad Γ 0)), some (.int p1), some (.int p2), some (.int r7), some (.int (-1 : Int32)), some (.int (0 : Int32)), none]) hO dX4_spare_33 (by decide) rfl rfl ?_
      exact GG.sub (lv2 := [some (.ref (gad Γ 0)), some (.int p1), some (.int p2), some (.int r7), some (.int (-1 : Int32)), some (.int (0 : Int32)), none]) ⟨rfl, ⟨rfl, ⟨rfl, ⟨rfl, ⟨rfl, ⟨rfl, trivial⟩⟩⟩⟩⟩⟩ h
    · have h := h.2 c6
      refine G_sipush (v := -1000) hO dX4_spare_19 rfl ?_
      exact G_iret hO dX4_spare_22 rfl rfl (QI.i h)
def wp_X4_gladAsItIs (Γ : Gx) (d : Nat) (p1 : Int32) (w : Wd) (Q : Int32 → Wd → Prop) : Prop :=
  CV Γ d M_X0_becomeLike [.ref (gad Γ 39), .ref (gad Γ 32)] w (fun w2 => CI Γ d M_X0_gladBehind [.ref (gad Γ 39), .int p1] w2 (fun r3 w4 => Q r3 w4))
set_option maxRecDepth 20000 in
theorem con_X4_gladAsItIs {Γ : Gx} {d : Nat} (hG : GC Γ) {p1 : Int32}  {w : Wd} {Q : Int32 → Wd → Prop} (h : wp_X4_gladAsItIs Γ d p1 w Q) : CI Γ (d + 1) M_X4_gladAsItIs [.ref (gad Γ 0), .int p1] w Q := by
  have hC := hG.2.1
  refine Con.of RX4 cX4_gladAsItIs 2 (some .int) [some (.ref (gad Γ 0)), some (.int p1)] rfl rfl (by decide +kernel) hG.1 (catR (catI cat0)) (Nat.le_of_ble_eq_true rfl) rfl ?_
  intro X hO
  refine G_aload_n hO dX4_gladAsItIs_0 rfl rfl ?_
  refine gr_X4_43 (c := 39) hO dX4_gladAsItIs_1 (ShC.c0 hC) rfl ?_
  refine G_aload_n hO dX4_gladAsItIs_4 rfl rfl ?_
  refine gr_X4_39 (c := 32) hO dX4_gladAsItIs_5 (ShC.c0 hC) rfl ?_
  refine G_callVv hO dX4_gladAsItIs_8 h cl_X4_116 (ShC.f39 hC).1 rfl rfl (Nat.le_of_ble_eq_true rfl) (fun w2 h => ?_) rfl
  refine G_aload_n hO dX4_gladAsItIs_11 rfl rfl ?_
  refine gr_X4_43 (c := 39) hO dX4_gladAsItIs_12 (ShC.c0 hC) rfl ?_
  refine G_iload_n hO dX4_gladAsItIs_15 rfl rfl ?_
  refine G_callVi hO dX4_gladAsItIs_16 h cl_X4_158 (ShC.f39 hC).1 rfl rfl (Nat.le_of_ble_eq_true rfl) (fun r3 w4 h => ?_) rfl
  exact G_iret hO dX4_gladAsItIs_19 rfl rfl (QI.i h)
def wp_X4_add (Γ : Gx) (d : Nat) (p1 : Int32) (p2 : Int32) (p3 : Int32) (w : Wd) (Q : Int32 → Wd → Prop) : Prop :=
  ∀ (P_100 : Int32 → Int32 → Int32 → Int32 → Int32 → Wd → Prop),
  (∀ (l4 : Int32) (l5 : Int32) (l6 : Int32) (l7 : Int32) (l8 : Int32) (w : Wd), (((8 : Int32) ≤ l8 → ((¬ p3 = 0 → Q l5 w) ∧ (p3 = 0 → Q l6 w))) ∧ (¬ (8 : Int32) ≤ l8 → ((((l7 >>> (l8 &&& 31)) &&& (1 : Int32)) = 0 → P_100 l4 l5 l6 l7 (l8 + 1) w) ∧ (¬ ((l7 >>> (l8 &&& 31)) &&& (1 : Int32)) = 0 → CI Γ d M_X0_feelsBy [.ref (gad Γ 32), .int p2, .int p1, .int l8] w (fun r19 w20 => CI Γ d M_X4_bounded [.int (l4 + r19)] w20 (fun r21 w22 => ((r21 ≤ l5 → P_100 l4 l5 l6 l7 (l8 + 1) w22) ∧ (¬ r21 ≤ l5 → P_100 l4 r21 l8 l7 (l8 + 1) w22)))))))) → P_100 l4 l5 l6 l7 l8 w) →
  CI Γ d M_X4_areTwo [.ref (gad Γ 0), .int p1, .int p2] w (fun r1 w2 => ((r1 = 0 → Q (-1000 : Int32) w2) ∧ (¬ r1 = 0 → CI Γ d M_X4_isIn [.int p3, .int (0 : Int32), .int (1 : Int32)] w2 (fun r4 w5 => ((¬ r4 = 0 → CV Γ d M_X0_becomeLike [.ref (gad Γ 39), .ref (gad Γ 32)] w5 (fun w8 => CI Γ d M_X0_passSunday [.ref (gad Γ 39)] w8 (fun r9 w10 => (vp_in p2 5 ∧ (∀ v12 : Int32, v12 = ((w10 35 (p2).toNatClampNeg) + (w10 43 (p2).toNatClampNeg)) → CI Γ d M_X0_layersOf [.ref (gad Γ 32), .int p1, .int p2] w10 (fun r14 w15 => P_100 v12 (w10 42 (p2).toNatClampNeg) (-1 : Int32) ((w10 32 5) &&& (r14 ^^^ (-1 : Int32))) (0 : Int32) w15)))))) ∧ (r4 = 0 → Q (-1000 : Int32) w5))))))
set_option maxRecDepth 20000 in
theorem con_X4_add {Γ : Gx} {d : Nat} (hG : GC Γ) {p1 : Int32} {p2 : Int32} {p3 : Int32}  {w : Wd} {Q : Int32 → Wd → Prop} (h : wp_X4_add Γ d p1 p2 p3 w Q) : CI Γ (d + 1) M_X4_add [.ref (gad Γ 0), .int p1, .int p2, .int p3] w Q := by
  have hC := hG.2.1
  refine Con.of RX4 cX4_add 10 (some .int) [some (.ref (gad Γ 0)), some (.int p1), some (.int p2), some (.int p3), none, none, none, none, none, none] rfl rfl (by decide +kernel) hG.1 (catR (catI (catI (catI cat0)))) (Nat.le_of_ble_eq_true rfl) rfl ?_
  intro X hO
  have h := h
    (fun (l4 : Int32) (l5 : Int32) (l6 : Int32) (l7 : Int32) (l8 : Int32) (w : Wd) => GG Γ X (d + 1) 10 (QI Q) 100 [some (.ref (gad Γ 0)), some (.int p1), some (.int p2), some (.int p3), some (.int l4), some (.int l5), some (.int l6), some (.int l7), some (.int l8), none] [] w)
    (by
        intro l4 l5 l6 l7 l8 w h
        refine G_iload hO dX4_add_100 rfl ?_
        refine G_bipush (v := 8) hO dX4_add_102 rfl ?_
        refine G_icmp_ge (tgt := 157) hO dX4_add_104 (by decide) (fun c16 => ?_) (fun c16 => ?_)
        · have h := h.1 c16
          refine G_iload_n hO dX4_add_157 rfl rfl ?_
          refine G_if_ne (tgt := 166) hO dX4_add_158 (by decide) (fun c17 => ?_) (fun c17 => ?_)
          · have h := h.1 c17
            refine G_iload hO dX4_add_166 rfl ?_
            exact G_iret hO dX4_add_168 rfl rfl (QI.i h)
          · have h := h.2 c17
            refine G_iload hO dX4_add_161 rfl ?_
            refine G_goto (tgt := 168) hO dX4_add_163 (by decide) ?_
            exact G_iret hO dX4_add_168 rfl rfl (QI.i h)
        · have h := h.2 c16
          refine G_iload hO dX4_add_107 rfl ?_
          refine G_iload hO dX4_add_109 rfl ?_
          refine G_ishr hO dX4_add_111 ?_
          refine G_iconst (v := 1) hO dX4_add_112 rfl ?_
          refine G_iand hO dX4_add_113 ?_
          refine G_if_eq (tgt := 151) hO dX4_add_114 (by decide) (fun c18 => ?_) (fun c18 => ?_)
          · have h := h.1 c18
            refine G_iinc (v := (l8 + 1)) (lv2 := [some (.ref (gad Γ 0)), some (.int p1), some (.int p2), some (.int p3), some (.int l4), some (.int l5), some (.int l6), some (.int l7), some (.int (l8 + 1)), none]) hO dX4_add_151 rfl rfl (by decide) rfl rfl ?_
            refine G_goto (tgt := 100) hO dX4_add_154 (by decide) ?_
            exact GG.sub (lv2 := [some (.ref (gad Γ 0)), some (.int p1), some (.int p2), some (.int p3), some (.int l4), some (.int l5), some (.int l6), some (.int l7), some (.int (l8 + 1)), none]) ⟨rfl, ⟨rfl, ⟨rfl, ⟨rfl, ⟨rfl, ⟨rfl, ⟨rfl, ⟨rfl, ⟨rfl, trivial⟩⟩⟩⟩⟩⟩⟩⟩⟩ h
          · have h := h.2 c18
            refine G_iload hO dX4_add_117 rfl ?_
            refine G_aload_n hO dX4_add_119 rfl rfl ?_
            refine gr_X4_39 (c := 32) hO dX4_add_120 (ShC.c0 hC) rfl ?_
            refine G_iload_n hO dX4_add_123 rfl rfl ?_
            refine G_iload_n hO dX4_add_124 rfl rfl ?_
            refine G_iload hO dX4_add_125 rfl ?_
            refine G_callVi hO dX4_add_127 h cl_X4_134 (ShC.f32 hC).1 rfl rfl (Nat.le_of_ble_eq_true rfl) (fun r19 w20 h => ?_) rfl
            refine G_iadd hO dX4_add_130 ?_
            refine G_callSi hO dX4_add_131 h cl_X4_188 rfl (Nat.le_of_ble_eq_true rfl) (fun r21 w22 h => ?_) rfl
            refine G_istore (lv2 := [some (.ref (gad Γ 0)), some (.int p1), some (.int p2), some (.int p3), some (.int l4), some (.int l5), some (.int l6), some (.int l7), some (.int l8), some (.int r21)]) hO dX4_add_134 (by decide) rfl rfl ?_
            refine G_iload hO dX4_add_136 rfl ?_
            refine G_iload hO dX4_add_138 rfl ?_
            refine GG.atpc (pc2 := 140) rfl ?_
            refine G_icmp_le (tgt := 151) hO dX4_add_140 (by decide) (fun c23 => ?_) (fun c23 => ?_)
            · have h := h.1 c23
              refine G_iinc (v := (l8 + 1)) (lv2 := [some (.ref (gad Γ 0)), some (.int p1), some (.int p2), some (.int p3), some (.int l4), some (.int l5), some (.int l6), some (.int l7), some (.int (l8 + 1)), some (.int r21)]) hO dX4_add_151 rfl rfl (by decide) rfl rfl ?_
              refine G_goto (tgt := 100) hO dX4_add_154 (by decide) ?_
              exact GG.sub (lv2 := [some (.ref (gad Γ 0)), some (.int p1), some (.int p2), some (.int p3), some (.int l4), some (.int l5), some (.int l6), some (.int l7), some (.int (l8 + 1)), none]) ⟨rfl, ⟨rfl, ⟨rfl, ⟨rfl, ⟨rfl, ⟨rfl, ⟨rfl, ⟨rfl, ⟨rfl, trivial⟩⟩⟩⟩⟩⟩⟩⟩⟩ h
            · have h := h.2 c23
              refine G_iload hO dX4_add_143 rfl ?_
              refine G_istore (lv2 := [some (.ref (gad Γ 0)), some (.int p1), some (.int p2), some (.int p3), some (.int l4), some (.int r21), some (.int l6), some (.int l7), some (.int l8), some (.int r21)]) hO dX4_add_145 (by decide) rfl rfl ?_
              refine G_iload hO dX4_add_147 rfl ?_
              refine G_istore (lv2 := [some (.ref (gad Γ 0)), some (.int p1), some (.int p2), some (.int p3), some (.int l4), some (.int r21), some (.int l8), some (.int l7), some (.int l8), some (.int r21)]) hO dX4_add_149 (by decide) rfl rfl ?_
              refine G_iinc (v := (l8 + 1)) (lv2 := [some (.ref (gad Γ 0)), some (.int p1), some (.int p2), some (.int p3), some (.int l4), some (.int r21), some (.int l8), some (.int l7), some (.int (l8 + 1)), some (.int r21)]) hO dX4_add_151 rfl rfl (by decide) rfl rfl ?_
              refine G_goto (tgt := 100) hO dX4_add_154 (by decide) ?_
              exact GG.sub (lv2 := [some (.ref (gad Γ 0)), some (.int p1), some (.int p2), some (.int p3), some (.int l4), some (.int r21), some (.int l8), some (.int l7), some (.int (l8 + 1)), none]) ⟨rfl, ⟨rfl, ⟨rfl, ⟨rfl, ⟨rfl, ⟨rfl, ⟨rfl, ⟨rfl, ⟨rfl, trivial⟩⟩⟩⟩⟩⟩⟩⟩⟩ h)
  refine G_aload_n hO dX4_add_0 rfl rfl ?_
  refine G_iload_n hO dX4_add_1 rfl rfl ?_
  refine G_iload_n hO dX4_add_2 rfl rfl ?_
  refine G_callVi hO dX4_add_3 h cl_X4_131 (ShC.c0 hC) rfl rfl (Nat.le_of_ble_eq_true rfl) (fun r1 w2 h => ?_) rfl
  refine G_if_eq (tgt := 18) hO dX4_add_6 (by decide) (fun c3 => ?_) (fun c3 => ?_)
  · have h := h.1 c3
    refine G_sipush (v := -1000) hO dX4_add_18 rfl ?_
    exact G_iret hO dX4_add_21 rfl rfl (QI.i h)
  · have h := h.2 c3
    refine G_iload_n hO dX4_add_9 rfl rfl ?_
    refine G_iconst (v := 0) hO dX4_add_10 rfl ?_
    refine G_iconst (v := 1) hO dX4_add_11 rfl ?_
    refine G_callSi hO dX4_add_12 h cl_X4_76 rfl (Nat.le_of_ble_eq_true rfl) (fun r4 w5 h => ?_) rfl
    refine G_if_ne (tgt := 22) hO dX4_add_15 (by decide) (fun c6 => ?_) (fun c6 => ?_)
    · have h := h.1 c6
      refine G_aload_n hO dX4_add_22 rfl rfl ?_
      refine gr_X4_43 (c := 39) hO dX4_add_23 (ShC.c0 hC) rfl ?_
      refine G_aload_n hO dX4_add_26 rfl rfl ?_
      refine gr_X4_39 (c := 32) hO dX4_add_27 (ShC.c0 hC) rfl ?_
      refine G_callVv hO dX4_add_30 h cl_X4_116 (ShC.f39 hC).1 rfl rfl (Nat.le_of_ble_eq_true rfl) (fun w8 h => ?_) rfl
      refine G_aload_n hO dX4_add_33 rfl rfl ?_
      refine gr_X4_43 (c := 39) hO dX4_add_34 (ShC.c0 hC) rfl ?_
      refine G_callVi hO dX4_add_37 h cl_X4_120 (ShC.f39 hC).1 rfl rfl (Nat.le_of_ble_eq_true rfl) (fun r9 w10 h => ?_) rfl
      refine G_pop hO dX4_add_40 rfl ?_
      refine G_aload_n hO dX4_add_41 rfl rfl ?_
      refine gr_X4_39 (c := 32) hO dX4_add_42 (ShC.c0 hC) rfl ?_
      refine gr_X4_100 (c := 35) hO dX4_add_45 (ShC.f32 hC).1 rfl ?_
      refine GG.atpc (pc2 := 48) rfl ?_
      refine G_iload_n hO dX4_add_48 rfl rfl ?_
      obtain ⟨c11, h⟩ := h
      refine G_iaload hO dX4_add_49 (ShC.f32 hC).2.2.2.1 c11 ?_
      refine G_aload_n hO dX4_add_50 rfl rfl ?_
      refine gr_X4_43 (c := 39) hO dX4_add_51 (ShC.c0 hC) rfl ?_
      refine gr_X4_185 (c := 43) hO dX4_add_54 (ShC.f39 hC).1 rfl ?_
      refine G_iload_n hO dX4_add_57 rfl rfl ?_
      refine G_iaload hO dX4_add_58 (ShC.f39 hC).2.2.2.2.1 c11 ?_
      refine G_iadd hO dX4_add_59 ?_
      refine GG.nmi (fun v12 e13 => ?_)
      have h := h v12 e13
      refine G_istore (lv2 := [some (.ref (gad Γ 0)), some (.int p1), some (.int p2), some (.int p3), some (.int v12), none, none, none, none, none]) hO dX4_add_60 (by decide) rfl rfl ?_
      refine G_aload_n hO dX4_add_62 rfl rfl ?_
      refine gr_X4_43 (c := 39) hO dX4_add_63 (ShC.c0 hC) rfl ?_
      refine gr_X4_100 (c := 42) hO dX4_add_66 (ShC.f39 hC).1 rfl ?_
      refine GG.atpc (pc2 := 69) rfl ?_
      refine G_iload_n hO dX4_add_69 rfl rfl ?_
      refine G_iaload hO dX4_add_70 (ShC.f39 hC).2.2.2.1 c11 ?_
      refine G_istore (lv2 := [some (.ref (gad Γ 0)), some (.int p1), some (.int p2), some (.int p3), some (.int v12), some (.int (w10 42 (p2).toNatClampNeg)), none, none, none, none]) hO dX4_add_71 (by decide) rfl rfl ?_
      refine G_iconst (v := -1) hO dX4_add_73 rfl ?_
      refine G_istore (lv2 := [some (.ref (gad Γ 0)), some (.int p1), some (.int p2), some (.int p3), some (.int v12), some (.int (w10 42 (p2).toNatClampNeg)), some (.int (-1 : Int32)), none, none, none]) hO dX4_add_74 (by decide) rfl rfl ?_
      refine G_aload_n hO dX4_add_76 rfl rfl ?_
      refine gr_X4_39 (c := 32) hO dX4_add_77 (ShC.c0 hC) rfl ?_
      refine gi_X4_94 hO dX4_add_80 (ShC.f32 hC).1 rfl ?_
      refine G_aload_n hO dX4_add_83 rfl rfl ?_
      refine gr_X4_39 (c := 32) hO dX4_add_84 (ShC.c0 hC) rfl ?_
      refine G_iload_n hO dX4_add_87 rfl rfl ?_
      refine G_iload_n hO dX4_add_88 rfl rfl ?_
      refine GG.atpc (pc2 := 89) rfl ?_
      refine G_callVi hO dX4_add_89 h cl_X4_138 (ShC.f32 hC).1 rfl rfl (Nat.le_of_ble_eq_true rfl) (fun r14 w15 h => ?_) rfl
      refine G_iconst (v := -1) hO dX4_add_92 rfl ?_
      refine G_ixor hO dX4_add_93 ?_
      refine G_iand hO dX4_add_94 ?_
      refine G_istore (lv2 := [some (.ref (gad Γ 0)), some (.int p1), some (.int p2), some (.int p3), some (.int v12), some (.int (w10 42 (p2).toNatClampNeg)), some (.int (-1 : Int32)), some (.int ((w10 32 5) &&& (r14 ^^^ (-1 : Int32)))), none, none]) hO dX4_add_95 (by decide) rfl rfl ?_
      refine G_iconst (v := 0) hO dX4_add_97 rfl ?_
      refine G_istore (lv2 := [some (.ref (gad Γ 0)), some (.int p1), some (.int p2), some (.int p3), some (.int v12), some (.int (w10 42 (p2).toNatClampNeg)), some (.int (-1 : Int32)), some (.int ((w10 32 5) &&& (r14 ^^^ (-1 : Int32)))), some (.int (0 : Int32)), none]) hO dX4_add_98 (by decide) rfl rfl ?_
      exact GG.sub (lv2 := [some (.ref (gad Γ 0)), some (.int p1), some (.int p2), some (.int p3), some (.int v12), some (.int (w10 42 (p2).toNatClampNeg)), some (.int (-1 : Int32)), some (.int ((w10 32 5) &&& (r14 ^^^ (-1 : Int32)))), some (.int (0 : Int32)), none]) ⟨rfl, ⟨rfl, ⟨rfl, ⟨rfl, ⟨rfl, ⟨rfl, ⟨rfl, ⟨rfl, ⟨rfl, trivial⟩⟩⟩⟩⟩⟩⟩⟩⟩ h
    · have h := h.2 c6
      refine G_sipush (v := -1000) hO dX4_add_18 rfl ?_
      exact G_iret hO dX4_add_21 rfl rfl (QI.i h)
def wp_X4_bounded (Γ : Gx) (d : Nat) (p1 : Int32) (w : Wd) (Q : Int32 → Wd → Prop) : Prop :=
  Q (if (-20 : Int32) < (if p1 < (20 : Int32) then p1 else (20 : Int32)) then (if p1 < (20 : Int32) then p1 else (20 : Int32)) else (-20 : Int32)) w
set_option maxRecDepth 20000 in
theorem con_X4_bounded {Γ : Gx} {d : Nat} (hG : GC Γ) {p1 : Int32}  {w : Wd} {Q : Int32 → Wd → Prop} (h : wp_X4_bounded Γ d p1 w Q) : CI Γ (d + 1) M_X4_bounded [.int p1] w Q := by
  have hC := hG.2.1
  refine Con.of RX4 cX4_bounded 1 (some .int) [some (.int p1)] rfl rfl (by decide +kernel) hG.1 (catI cat0) (Nat.le_of_ble_eq_true rfl) rfl ?_
  intro X hO
  refine G_bipush (v := -20) hO dX4_bounded_0 rfl ?_
  refine G_bipush (v := 20) hO dX4_bounded_2 rfl ?_
  refine G_iload_n hO dX4_bounded_4 rfl rfl ?_
  refine G_mmin hO dX4_bounded_5 ml_X4_191 (Nat.le_of_ble_eq_true rfl) ?_
  refine G_mmax hO dX4_bounded_8 ml_X4_196 (Nat.le_of_ble_eq_true rfl) ?_
  exact G_iret hO dX4_bounded_11 rfl rfl (QI.i h)
def wp_X4_tells (Γ : Gx) (d : Nat) (p1 : Int32) (p2 : Int32) (p3 : Int32) (w : Wd) (Q : Int32 → Wd → Prop) : Prop :=
  CI Γ d M_X4_isSheet [.int p1] w (fun r1 w2 => ((r1 = 0 → Q (-1000 : Int32) w2) ∧ (¬ r1 = 0 → CI Γ d M_X4_isPerson [.ref (gad Γ 0), .int p2] w2 (fun r4 w5 => ((r4 = 0 → Q (-1000 : Int32) w5) ∧ (¬ r4 = 0 → CI Γ d M_X4_isIn [.int p3, .int (0 : Int32), .int (5 : Int32)] w5 (fun r7 w8 => ((¬ r7 = 0 → (vp_in p1 4 ∧ (ShS Γ (rfa sheetCells (p1).toNatClampNeg) ∧ CI Γ d M_X2_isMissing [.ref (gad Γ (rfa sheetCells (p1).toNatClampNeg))] w8 (fun r12 w13 => ((r12 = 0 → (((w13 (rfa sheetCells (p1).toNatClampNeg) 2) ≤ (10 : Int32) → (((p3 = (0 : Int32)) → CV Γ d M_X0_becomeLike [.ref (gad Γ 39), .ref (gad Γ 32)] w13 (fun w17 => CI Γ d M_X0_firstOtherwise [.ref (gad Γ 39), .ref (gad Γ (rfa sheetCells (p1).toNatClampNeg)), .int p2] w17 (fun r18 w19 => Q r18 w19))) ∧ ((p3 = (3 : Int32) ∨ p3 = (4 : Int32)) → ((¬ p3 = (4 : Int32) → CI Γ d M_X4_moodsSo [.ref (gad Γ 0), .ref (gad Γ (rfa sheetCells (p1).toNatClampNeg)), .int p2, .int (0 : Int32)] w13 (fun r21 w22 => Q r21 w22)) ∧ (p3 = (4 : Int32) → CI Γ d M_X4_moodsSo [.ref (gad Γ 0), .ref (gad Γ (rfa sheetCells (p1).toNatClampNeg)), .int p2, .int (1 : Int32)] w13 (fun r23 w24 => Q r23 w24)))) ∧ ((¬ p3 = (0 : Int32) ∧ ¬ p3 = (3 : Int32) ∧ ¬ p3 = (4 : Int32)) → CI Γ d M_X4_bitsSo [.ref (gad Γ 0), .ref (gad Γ (rfa sheetCells (p1).toNatClampNeg)), .int p2, .int p3] w13 (fun r25 w26 => Q r25 w26)))) ∧ (¬ (w13 (rfa sheetCells (p1).toNatClampNeg) 2) ≤ (10 : Int32) → Q (-1000 : Int32) w13))) ∧ (¬ r12 = 0 → Q (-11 : Int32) w13)))))) ∧ (r7 = 0 → Q (-1000 : Int32) w8)))))))))
set_option maxRecDepth 20000 in
theorem con_X4_tells {Γ : Gx} {d : Nat} (hG : GC Γ) {p1 : Int32} {p2 : Int32} {p3 : Int32}  {w : Wd} {Q : Int32 → Wd → Prop} (h : wp_X4_tells Γ d p1 p2 p3 w Q) : CI Γ (d + 1) M_X4_tells [.ref (gad Γ 0), .int p1, .int p2, .int p3] w Q := by
  have hC := hG.2.1
  refine Con.of RX4 cX4_tells 5 (some .int) [some (.ref (gad Γ 0)), some (.int p1), some (.int p2), some (.int p3), none] rfl rfl (by decide +kernel) hG.1 (catR (catI (catI (catI cat0)))) (Nat.le_of_ble_eq_true rfl) rfl ?_
  intro X hO
  refine G_iload_n hO dX4_tells_0 rfl rfl ?_
  refine G_callSi hO dX4_tells_1 h cl_X4_199 rfl (Nat.le_of_ble_eq_true rfl) (fun r1 w2 h => ?_) rfl
  refine G_if_eq (tgt := 24) hO dX4_tells_4 (by decide) (fun c3 => ?_) (fun c3 => ?_)
  · have h := h.1 c3
    refine G_sipush (v := -1000) hO dX4_tells_24 rfl ?_
    exact G_iret hO dX4_tells_27 rfl rfl (QI.i h)
  · have h := h.2 c3
    refine G_aload_n hO dX4_tells_7 rfl rfl ?_
    refine G_iload_n hO dX4_tells_8 rfl rfl ?_
    refine G_callVi hO dX4_tells_9 h cl_X4_124 (ShC.c0 hC) rfl rfl (Nat.le_of_ble_eq_true rfl) (fun r4 w5 h => ?_) rfl
    refine G_if_eq (tgt := 24) hO dX4_tells_12 (by decide) (fun c6 => ?_) (fun c6 => ?_)
    · have h := h.1 c6
      refine G_sipush (v := -1000) hO dX4_tells_24 rfl ?_
      exact G_iret hO dX4_tells_27 rfl rfl (QI.i h)
    · have h := h.2 c6
      refine G_iload_n hO dX4_tells_15 rfl rfl ?_
      refine G_iconst (v := 0) hO dX4_tells_16 rfl ?_
      refine G_iconst (v := 5) hO dX4_tells_17 rfl ?_
      refine G_callSi hO dX4_tells_18 h cl_X4_76 rfl (Nat.le_of_ble_eq_true rfl) (fun r7 w8 h => ?_) rfl
      refine G_if_ne (tgt := 28) hO dX4_tells_21 (by decide) (fun c9 => ?_) (fun c9 => ?_)
      · have h := h.1 c9
        refine G_aload_n hO dX4_tells_28 rfl rfl ?_
        refine gr_X4_17 (c := 2) hO dX4_tells_29 (ShC.c0 hC) rfl ?_
        refine G_iload_n hO dX4_tells_32 rfl rfl ?_
        obtain ⟨c10, h⟩ := h
        obtain ⟨c11, h⟩ := h
        refine G_aaS hO dX4_tells_33 (ShC.c2 hC) c10 ?_
        refine G_astore (lv2 := [some (.ref (gad Γ 0)), some (.int p1), some (.int p2), some (.int p3), some (.ref (gad Γ (rfa sheetCells (p1).toNatClampNeg)))]) hO dX4_tells_34 (by decide) rfl rfl ?_
        refine G_aload hO dX4_tells_36 rfl ?_
        refine G_callVi hO dX4_tells_38 h cl_X4_202 c11.1 rfl rfl (Nat.le_of_ble_eq_true rfl) (fun r12 w13 h => ?_) rfl
        refine G_if_eq (tgt := 47) hO dX4_tells_41 (by decide) (fun c14 => ?_) (fun c14 => ?_)
        · have h := h.1 c14
          refine G_aload hO dX4_tells_47 rfl ?_
          refine gi_X4_205 hO dX4_tells_49 c11.1 rfl ?_
          refine G_bipush (v := 10) hO dX4_tells_52 rfl ?_
          refine G_icmp_le (tgt := 61) hO dX4_tells_54 (by decide) (fun c15 => ?_) (fun c15 => ?_)
          · have h := h.1 c15
            refine G_iload_n hO dX4_tells_61 rfl rfl ?_
            by_cases e0 : p3 = (0 : Int32)
            · have h := h.1 e0
              refine G_tabIn (tgt := 96) (j := 0) hO dX4_tells_62 (by decide) rfl (sweq e0 (by decide)) (by decide) ?_
              refine G_aload_n hO dX4_tells_96 rfl rfl ?_
              refine gr_X4_43 (c := 39) hO dX4_tells_97 (ShC.c0 hC) rfl ?_
              refine G_aload_n hO dX4_tells_100 rfl rfl ?_
              refine gr_X4_39 (c := 32) hO dX4_tells_101 (ShC.c0 hC) rfl ?_
              refine G_callVv hO dX4_tells_104 h cl_X4_116 (ShC.f39 hC).1 rfl rfl (Nat.le_of_ble_eq_true rfl) (fun w17 h => ?_) rfl
              refine G_aload_n hO dX4_tells_107 rfl rfl ?_
              refine gr_X4_43 (c := 39) hO dX4_tells_108 (ShC.c0 hC) rfl ?_
              refine G_aload hO dX4_tells_111 rfl ?_
              refine G_iload_n hO dX4_tells_113 rfl rfl ?_
              refine G_callVi hO dX4_tells_114 h cl_X4_206 (ShC.f39 hC).1 rfl rfl (Nat.le_of_ble_eq_true rfl) (fun r18 w19 h => ?_) rfl
              exact G_iret hO dX4_tells_117 rfl rfl (QI.i h)
            · by_cases e3 : p3 = (3 : Int32)
              · have h := h.2.1 (Or.inl e3)
                refine G_tabIn (tgt := 118) (j := 3) hO dX4_tells_62 (by decide) rfl (sweq e3 (by decide)) (by decide) ?_
                refine G_aload_n hO dX4_tells_118 rfl rfl ?_
                refine G_aload hO dX4_tells_119 rfl ?_
                refine G_iload_n hO dX4_tells_121 rfl rfl ?_
                refine G_iload_n hO dX4_tells_122 rfl rfl ?_
                refine G_iconst (v := 4) hO dX4_tells_123 rfl ?_
                refine G_icmp_ne (tgt := 131) hO dX4_tells_124 (by decide) (fun c20 => ?_) (fun c20 => ?_)
                · have h := h.1 c20
                  refine G_iconst (v := 0) hO dX4_tells_131 rfl ?_
                  refine G_callVi hO dX4_tells_132 h cl_X4_210 (ShC.c0 hC) rfl rfl (Nat.le_of_ble_eq_true rfl) (fun r21 w22 h => ?_) rfl
                  exact G_iret hO dX4_tells_135 rfl rfl (QI.i h)
                · have h := h.2 c20
                  refine G_iconst (v := 1) hO dX4_tells_127 rfl ?_
                  refine G_goto (tgt := 132) hO dX4_tells_128 (by decide) ?_
                  refine G_callVi hO dX4_tells_132 h cl_X4_210 (ShC.c0 hC) rfl rfl (Nat.le_of_ble_eq_true rfl) (fun r23 w24 h => ?_) rfl
                  exact G_iret hO dX4_tells_135 rfl rfl (QI.i h)
              · by_cases e4 : p3 = (4 : Int32)
                · have h := h.2.1 (Or.inr e4)
                  refine G_tabIn (tgt := 118) (j := 4) hO dX4_tells_62 (by decide) rfl (sweq e4 (by decide)) (by decide) ?_
                  refine G_aload_n hO dX4_tells_118 rfl rfl ?_
                  refine G_aload hO dX4_tells_119 rfl ?_
                  refine G_iload_n hO dX4_tells_121 rfl rfl ?_
                  refine G_iload_n hO dX4_tells_122 rfl rfl ?_
                  refine G_iconst (v := 4) hO dX4_tells_123 rfl ?_
                  refine G_icmp_ne (tgt := 131) hO dX4_tells_124 (by decide) (fun c20 => ?_) (fun c20 => ?_)
                  · have h := h.1 c20
                    refine G_iconst (v := 0) hO dX4_tells_131 rfl ?_
                    refine G_callVi hO dX4_tells_132 h cl_X4_210 (ShC.c0 hC) rfl rfl (Nat.le_of_ble_eq_true rfl) (fun r21 w22 h => ?_) rfl
                    exact G_iret hO dX4_tells_135 rfl rfl (QI.i h)
                  · have h := h.2 c20
                    refine G_iconst (v := 1) hO dX4_tells_127 rfl ?_
                    refine G_goto (tgt := 132) hO dX4_tells_128 (by decide) ?_
                    refine G_callVi hO dX4_tells_132 h cl_X4_210 (ShC.c0 hC) rfl rfl (Nat.le_of_ble_eq_true rfl) (fun r23 w24 h => ?_) rfl
                    exact G_iret hO dX4_tells_135 rfl rfl (QI.i h)
                · have h := h.2.2 ⟨e0, e3, e4⟩
                  refine G_tabOut (tgt := 136) hO dX4_tells_62 (by decide) (by decide) (fun j hj => ?_) ?_
                  · rcases (show j = 0 ∨ j = 1 ∨ j = 2 ∨ j = 3 ∨ j = 4 from by have : j < 5 := hj; omega) with rfl | rfl | rfl | rfl | rfl
                    · exact swne e0 (by decide)
                    · exact trivial
                    · exact trivial
                    · exact swne e3 (by decide)
                    · exact swne e4 (by decide)
                  · refine G_aload_n hO dX4_tells_136 rfl rfl ?_
                    refine G_aload hO dX4_tells_137 rfl ?_
                    refine G_iload_n hO dX4_tells_139 rfl rfl ?_
                    refine G_iload_n hO dX4_tells_140 rfl rfl ?_
                    refine G_callVi hO dX4_tells_141 h cl_X4_214 (ShC.c0 hC) rfl rfl (Nat.le_of_ble_eq_true rfl) (fun r25 w26 h => ?_) rfl
                    exact G_iret hO dX4_tells_144 rfl rfl (QI.i h)
          · have h := h.2 c15
            refine G_sipush (v := -1000) hO dX4_tells_57 rfl ?_
            exact G_iret hO dX4_tells_60 rfl rfl (QI.i h)
        · have h := h.2 c14
          refine G_bipush (v := -11) hO dX4_tells_44 rfl ?_
          exact G_iret hO dX4_tells_46 rfl rfl (QI.i h)
      · have h := h.2 c9
        refine G_sipush (v := -1000) hO dX4_tells_24 rfl ?_
        exact G_iret hO dX4_tells_27 rfl rfl (QI.i h)
def wp_X4_bitsSo (Γ : Gx) (d : Nat) (a1 : Nat) (p2 : Int32) (p3 : Int32) (w : Wd) (Q : Int32 → Wd → Prop) : Prop :=
  ∀ (P_32 : Int32 → Int32 → Int32 → Wd → Prop),
  ∀ (P_97 : Int32 → Int32 → Int32 → Wd → Prop),
  (∀ (l4 : Int32) (l5 : Int32) (l6 : Int32) (w : Wd), ((l4 ≤ l6 → Q l5 w) ∧ (¬ l4 ≤ l6 → CV Γ d M_X0_becomeLike [.ref (gad Γ 39), .ref (gad Γ 32)] w (fun w5 => ((¬ p3 = (1 : Int32) → ((¬ p3 = (2 : Int32) → (∀ w8 : Wd, w8 = wset w5 39 7 l6 → P_97 l4 l5 l6 w8)) ∧ (p3 = (2 : Int32) → (vp_in p2 5 ∧ (∀ w11 : Wd, w11 = wset w5 41 (p2).toNatClampNeg l6 → P_97 l4 l5 l6 w11))))) ∧ (p3 = (1 : Int32) → (vp_in p2 5 ∧ (∀ w14 : Wd, w14 = wset w5 40 (p2).toNatClampNeg l6 → P_97 l4 l5 l6 w14))))))) → P_32 l4 l5 l6 w) →
  (∀ (l4 : Int32) (l5 : Int32) (l6 : Int32) (w : Wd), CI Γ d M_X0_firstOtherwise [.ref (gad Γ 39), .ref (gad Γ a1), .int p2] w (fun r16 w17 => ((¬ r16 = (-1 : Int32) → P_32 l4 l5 (l6 + 1) w17) ∧ (r16 = (-1 : Int32) → P_32 l4 (l5 ||| ((1 : Int32) <<< (l6 &&& 31))) (l6 + 1) w17))) → P_97 l4 l5 l6 w) →
  ((¬ p3 = (1 : Int32) → ((¬ p3 = (2 : Int32) → P_32 (w 0 7) (0 : Int32) (0 : Int32) w) ∧ (p3 = (2 : Int32) → P_32 (10 : Int32) (0 : Int32) (0 : Int32) w))) ∧ (p3 = (1 : Int32) → P_32 (6 : Int32) (0 : Int32) (0 : Int32) w))
set_option maxRecDepth 20000 in
theorem con_X4_bitsSo {Γ : Gx} {d : Nat} (hG : GC Γ) {a1 : Nat} {p2 : Int32} {p3 : Int32} (ha1 : ShS Γ a1) {w : Wd} {Q : Int32 → Wd → Prop} (h : wp_X4_bitsSo Γ d a1 p2 p3 w Q) : CI Γ (d + 1) M_X4_bitsSo [.ref (gad Γ 0), .ref (gad Γ a1), .int p2, .int p3] w Q := by
  have hC := hG.2.1
  refine Con.of RX4 cX4_bitsSo 7 (some .int) [some (.ref (gad Γ 0)), some (.ref (gad Γ a1)), some (.int p2), some (.int p3), none, none, none] rfl rfl (by decide +kernel) hG.1 (catR (catR (catI (catI cat0)))) (Nat.le_of_ble_eq_true rfl) rfl ?_
  intro X hO
  have h := h
    (fun (l4 : Int32) (l5 : Int32) (l6 : Int32) (w : Wd) => GG Γ X (d + 1) 7 (QI Q) 32 [some (.ref (gad Γ 0)), some (.ref (gad Γ a1)), some (.int p2), some (.int p3), some (.int l4), some (.int l5), some (.int l6)] [] w)
    (fun (l4 : Int32) (l5 : Int32) (l6 : Int32) (w : Wd) => GG Γ X (d + 1) 7 (QI Q) 97 [some (.ref (gad Γ 0)), some (.ref (gad Γ a1)), some (.int p2), some (.int p3), some (.int l4), some (.int l5), some (.int l6)] [] w)
    (by
        intro l4 l5 l6 w h
        refine G_iload hO dX4_bitsSo_32 rfl ?_
        refine G_iload hO dX4_bitsSo_34 rfl ?_
        refine G_icmp_ge (tgt := 125) hO dX4_bitsSo_36 (by decide) (fun c3 => ?_) (fun c3 => ?_)
        · have h := h.1 c3
          refine G_iload hO dX4_bitsSo_125 rfl ?_
          exact G_iret hO dX4_bitsSo_127 rfl rfl (QI.i h)
        · have h := h.2 c3
          refine G_aload_n hO dX4_bitsSo_39 rfl rfl ?_
          refine gr_X4_43 (c := 39) hO dX4_bitsSo_40 (ShC.c0 hC) rfl ?_
          refine G_aload_n hO dX4_bitsSo_43 rfl rfl ?_
          refine gr_X4_39 (c := 32) hO dX4_bitsSo_44 (ShC.c0 hC) rfl ?_
          refine G_callVv hO dX4_bitsSo_47 h cl_X4_116 (ShC.f39 hC).1 rfl rfl (Nat.le_of_ble_eq_true rfl) (fun w5 h => ?_) rfl
          refine G_iload_n hO dX4_bitsSo_50 rfl rfl ?_
          refine G_iconst (v := 1) hO dX4_bitsSo_51 rfl ?_
          refine G_icmp_ne (tgt := 69) hO dX4_bitsSo_52 (by decide) (fun c6 => ?_) (fun c6 => ?_)
          · have h := h.1 c6
            refine G_iload_n hO dX4_bitsSo_69 rfl rfl ?_
            refine G_iconst (v := 2) hO dX4_bitsSo_70 rfl ?_
            refine G_icmp_ne (tgt := 88) hO dX4_bitsSo_71 (by decide) (fun c7 => ?_) (fun c7 => ?_)
            · have h := h.1 c7
              refine G_aload_n hO dX4_bitsSo_88 rfl rfl ?_
              refine gr_X4_43 (c := 39) hO dX4_bitsSo_89 (ShC.c0 hC) rfl ?_
              refine G_iload hO dX4_bitsSo_92 rfl ?_
              refine pi_X4_128 hO dX4_bitsSo_94 (ShC.f39 hC).1 rfl ?_
              refine GG.nmw (fun w8 e9 => ?_)
              have h := h w8 e9
              exact GG.sub (lv2 := [some (.ref (gad Γ 0)), some (.ref (gad Γ a1)), some (.int p2), some (.int p3), some (.int l4), some (.int l5), some (.int l6)]) ⟨rfl, ⟨rfl, ⟨rfl, ⟨rfl, ⟨rfl, ⟨rfl, ⟨rfl, trivial⟩⟩⟩⟩⟩⟩⟩ h
            · have h := h.2 c7
              refine G_aload_n hO dX4_bitsSo_74 rfl rfl ?_
              refine gr_X4_43 (c := 39) hO dX4_bitsSo_75 (ShC.c0 hC) rfl ?_
              refine gr_X4_97 (c := 41) hO dX4_bitsSo_78 (ShC.f39 hC).1 rfl ?_
              refine G_iload_n hO dX4_bitsSo_81 rfl rfl ?_
              refine G_iload hO dX4_bitsSo_82 rfl ?_
              obtain ⟨c10, h⟩ := h
              refine G_iastore hO dX4_bitsSo_84 (ShC.f39 hC).2.2.1 c10 ?_
              refine GG.nmw (fun w11 e12 => ?_)
              have h := h w11 e12
              refine G_goto (tgt := 97) hO dX4_bitsSo_85 (by decide) ?_
              exact GG.sub (lv2 := [some (.ref (gad Γ 0)), some (.ref (gad Γ a1)), some (.int p2), some (.int p3), some (.int l4), some (.int l5), some (.int l6)]) ⟨rfl, ⟨rfl, ⟨rfl, ⟨rfl, ⟨rfl, ⟨rfl, ⟨rfl, trivial⟩⟩⟩⟩⟩⟩⟩ h
          · have h := h.2 c6
            refine G_aload_n hO dX4_bitsSo_55 rfl rfl ?_
            refine gr_X4_43 (c := 39) hO dX4_bitsSo_56 (ShC.c0 hC) rfl ?_
            refine gr_X4_106 (c := 40) hO dX4_bitsSo_59 (ShC.f39 hC).1 rfl ?_
            refine G_iload_n hO dX4_bitsSo_62 rfl rfl ?_
            refine G_iload hO dX4_bitsSo_63 rfl ?_
            obtain ⟨c13, h⟩ := h
            refine G_iastore hO dX4_bitsSo_65 (ShC.f39 hC).2.1 c13 ?_
            refine GG.nmw (fun w14 e15 => ?_)
            have h := h w14 e15
            refine G_goto (tgt := 97) hO dX4_bitsSo_66 (by decide) ?_
            exact GG.sub (lv2 := [some (.ref (gad Γ 0)), some (.ref (gad Γ a1)), some (.int p2), some (.int p3), some (.int l4), some (.int l5), some (.int l6)]) ⟨rfl, ⟨rfl, ⟨rfl, ⟨rfl, ⟨rfl, ⟨rfl, ⟨rfl, trivial⟩⟩⟩⟩⟩⟩⟩ h)
    (by
        intro l4 l5 l6 w h
        refine G_aload_n hO dX4_bitsSo_97 rfl rfl ?_
        refine gr_X4_43 (c := 39) hO dX4_bitsSo_98 (ShC.c0 hC) rfl ?_
        refine G_aload_n hO dX4_bitsSo_101 rfl rfl ?_
        refine G_iload_n hO dX4_bitsSo_102 rfl rfl ?_
        refine G_callVi hO dX4_bitsSo_103 h cl_X4_206 (ShC.f39 hC).1 rfl rfl (Nat.le_of_ble_eq_true rfl) (fun r16 w17 h => ?_) rfl
        refine G_iconst (v := -1) hO dX4_bitsSo_106 rfl ?_
        refine G_icmp_ne (tgt := 119) hO dX4_bitsSo_107 (by decide) (fun c18 => ?_) (fun c18 => ?_)
        · have h := h.1 c18
          refine G_iinc (v := (l6 + 1)) (lv2 := [some (.ref (gad Γ 0)), some (.ref (gad Γ a1)), some (.int p2), some (.int p3), some (.int l4), some (.int l5), some (.int (l6 + 1))]) hO dX4_bitsSo_119 rfl rfl (by decide) rfl rfl ?_
          refine G_goto (tgt := 32) hO dX4_bitsSo_122 (by decide) ?_
          exact GG.sub (lv2 := [some (.ref (gad Γ 0)), some (.ref (gad Γ a1)), some (.int p2), some (.int p3), some (.int l4), some (.int l5), some (.int (l6 + 1))]) ⟨rfl, ⟨rfl, ⟨rfl, ⟨rfl, ⟨rfl, ⟨rfl, ⟨rfl, trivial⟩⟩⟩⟩⟩⟩⟩ h
        · have h := h.2 c18
          refine G_iload hO dX4_bitsSo_110 rfl ?_
          refine G_iconst (v := 1) hO dX4_bitsSo_112 rfl ?_
          refine G_iload hO dX4_bitsSo_113 rfl ?_
          refine G_ishl hO dX4_bitsSo_115 ?_
          refine G_ior hO dX4_bitsSo_116 ?_
          refine G_istore (lv2 := [some (.ref (gad Γ 0)), some (.ref (gad Γ a1)), some (.int p2), some (.int p3), some (.int l4), some (.int (l5 ||| ((1 : Int32) <<< (l6 &&& 31)))), some (.int l6)]) hO dX4_bitsSo_117 (by decide) rfl rfl ?_
          refine G_iinc (v := (l6 + 1)) (lv2 := [some (.ref (gad Γ 0)), some (.ref (gad Γ a1)), some (.int p2), some (.int p3), some (.int l4), some (.int (l5 ||| ((1 : Int32) <<< (l6 &&& 31)))), some (.int (l6 + 1))]) hO dX4_bitsSo_119 rfl rfl (by decide) rfl rfl ?_
          refine G_goto (tgt := 32) hO dX4_bitsSo_122 (by decide) ?_
          exact GG.sub (lv2 := [some (.ref (gad Γ 0)), some (.ref (gad Γ a1)), some (.int p2), some (.int p3), some (.int l4), some (.int (l5 ||| ((1 : Int32) <<< (l6 &&& 31)))), some (.int (l6 + 1))]) ⟨rfl, ⟨rfl, ⟨rfl, ⟨rfl, ⟨rfl, ⟨rfl, ⟨rfl, trivial⟩⟩⟩⟩⟩⟩⟩ h)
  refine G_iload_n hO dX4_bitsSo_0 rfl rfl ?_
  refine G_iconst (v := 1) hO dX4_bitsSo_1 rfl ?_
  refine G_icmp_ne (tgt := 10) hO dX4_bitsSo_2 (by decide) (fun c1 => ?_) (fun c1 => ?_)
  · have h := h.1 c1
    refine G_iload_n hO dX4_bitsSo_10 rfl rfl ?_
    refine G_iconst (v := 2) hO dX4_bitsSo_11 rfl ?_
    refine G_icmp_ne (tgt := 20) hO dX4_bitsSo_12 (by decide) (fun c2 => ?_) (fun c2 => ?_)
    · have h := h.1 c2
      refine G_aload_n hO dX4_bitsSo_20 rfl rfl ?_
      refine gi_X4_73 hO dX4_bitsSo_21 (ShC.c0 hC) rfl ?_
      refine G_istore (lv2 := [some (.ref (gad Γ 0)), some (.ref (gad Γ a1)), some (.int p2), some (.int p3), some (.int (w 0 7)), none, none]) hO dX4_bitsSo_24 (by decide) rfl rfl ?_
      refine G_iconst (v := 0) hO dX4_bitsSo_26 rfl ?_
      refine G_istore (lv2 := [some (.ref (gad Γ 0)), some (.ref (gad Γ a1)), some (.int p2), some (.int p3), some (.int (w 0 7)), some (.int (0 : Int32)), none]) hO dX4_bitsSo_27 (by decide) rfl rfl ?_
      refine G_iconst (v := 0) hO dX4_bitsSo_29 rfl ?_
      refine G_istore (lv2 := [some (.ref (gad Γ 0)), some (.ref (gad Γ a1)), some (.int p2), some (.int p3), some (.int (w 0 7)), some (.int (0 : Int32)), some (.int (0 : Int32))]) hO dX4_bitsSo_30 (by decide) rfl rfl ?_
      exact GG.sub (lv2 := [some (.ref (gad Γ 0)), some (.ref (gad Γ a1)), some (.int p2), some (.int p3), some (.int (w 0 7)), some (.int (0 : Int32)), some (.int (0 : Int32))]) ⟨rfl, ⟨rfl, ⟨rfl, ⟨rfl, ⟨rfl, ⟨rfl, ⟨rfl, trivial⟩⟩⟩⟩⟩⟩⟩ h
    · have h := h.2 c2
      refine G_bipush (v := 10) hO dX4_bitsSo_15 rfl ?_
      refine G_goto (tgt := 24) hO dX4_bitsSo_17 (by decide) ?_
      refine G_istore (lv2 := [some (.ref (gad Γ 0)), some (.ref (gad Γ a1)), some (.int p2), some (.int p3), some (.int (10 : Int32)), none, none]) hO dX4_bitsSo_24 (by decide) rfl rfl ?_
      refine G_iconst (v := 0) hO dX4_bitsSo_26 rfl ?_
      refine G_istore (lv2 := [some (.ref (gad Γ 0)), some (.ref (gad Γ a1)), some (.int p2), some (.int p3), some (.int (10 : Int32)), some (.int (0 : Int32)), none]) hO dX4_bitsSo_27 (by decide) rfl rfl ?_
      refine G_iconst (v := 0) hO dX4_bitsSo_29 rfl ?_
      refine G_istore (lv2 := [some (.ref (gad Γ 0)), some (.ref (gad Γ a1)), some (.int p2), some (.int p3), some (.int (10 : Int32)), some (.int (0 : Int32)), some (.int (0 : Int32))]) hO dX4_bitsSo_30 (by decide) rfl rfl ?_
      exact GG.sub (lv2 := [some (.ref (gad Γ 0)), some (.ref (gad Γ a1)), some (.int p2), some (.int p3), some (.int (10 : Int32)), some (.int (0 : Int32)), some (.int (0 : Int32))]) ⟨rfl, ⟨rfl, ⟨rfl, ⟨rfl, ⟨rfl, ⟨rfl, ⟨rfl, trivial⟩⟩⟩⟩⟩⟩⟩ h
  · have h := h.2 c1
    refine G_bipush (v := 6) hO dX4_bitsSo_5 rfl ?_
    refine G_goto (tgt := 24) hO dX4_bitsSo_7 (by decide) ?_
    refine G_istore (lv2 := [some (.ref (gad Γ 0)), some (.ref (gad Γ a1)), some (.int p2), some (.int p3), some (.int (6 : Int32)), none, none]) hO dX4_bitsSo_24 (by decide) rfl rfl ?_
    refine G_iconst (v := 0) hO dX4_bitsSo_26 rfl ?_
    refine G_istore (lv2 := [some (.ref (gad Γ 0)), some (.ref (gad Γ a1)), some (.int p2), some (.int p3), some (.int (6 : Int32)), some (.int (0 : Int32)), none]) hO dX4_bitsSo_27 (by decide) rfl rfl ?_
    refine G_iconst (v := 0) hO dX4_bitsSo_29 rfl ?_
    refine G_istore (lv2 := [some (.ref (gad Γ 0)), some (.ref (gad Γ a1)), some (.int p2), some (.int p3), some (.int (6 : Int32)), some (.int (0 : Int32)), some (.int (0 : Int32))]) hO dX4_bitsSo_30 (by decide) rfl rfl ?_
    exact GG.sub (lv2 := [some (.ref (gad Γ 0)), some (.ref (gad Γ a1)), some (.int p2), some (.int p3), some (.int (6 : Int32)), some (.int (0 : Int32)), some (.int (0 : Int32))]) ⟨rfl, ⟨rfl, ⟨rfl, ⟨rfl, ⟨rfl, ⟨rfl, ⟨rfl, trivial⟩⟩⟩⟩⟩⟩⟩ h
def wp_X4_moodsSo (Γ : Gx) (d : Nat) (a1 : Nat) (p2 : Int32) (p3 : Int32) (w : Wd) (Q : Int32 → Wd → Prop) : Prop :=
  ∀ (P_11 : Int32 → Int32 → Int32 → Wd → Prop),
  (∀ (l4 : Int32) (l5 : Int32) (l6 : Int32) (w : Wd), (((20 : Int32) < l6 → ((p3 = 0 → Q l4 w) ∧ (¬ p3 = 0 → Q l5 w))) ∧ (¬ (20 : Int32) < l6 → CV Γ d M_X0_becomeLike [.ref (gad Γ 39), .ref (gad Γ 32)] w (fun w4 => (vp_in p2 5 ∧ (∀ w6 : Wd, w6 = wset w4 42 (p2).toNatClampNeg l6 → CI Γ d M_X0_firstOtherwise [.ref (gad Γ 39), .ref (gad Γ a1), .int p2] w6 (fun r8 w9 => ((¬ r8 = (-1 : Int32) → P_11 l4 l5 (l6 + 1) w9) ∧ (r8 = (-1 : Int32) → ((¬ l4 = 0 → P_11 (l4 + 1) l5 (l6 + 1) w9) ∧ (l4 = 0 → P_11 (l4 + 1) l6 (l6 + 1) w9)))))))))) → P_11 l4 l5 l6 w) →
  P_11 (0 : Int32) (-100 : Int32) (-20 : Int32) w
set_option maxRecDepth 20000 in
theorem con_X4_moodsSo {Γ : Gx} {d : Nat} (hG : GC Γ) {a1 : Nat} {p2 : Int32} {p3 : Int32} (ha1 : ShS Γ a1) {w : Wd} {Q : Int32 → Wd → Prop} (h : wp_X4_moodsSo Γ d a1 p2 p3 w Q) : CI Γ (d + 1) M_X4_moodsSo [.ref (gad Γ 0), .ref (gad Γ a1), .int p2, .int p3] w Q := by
  have hC := hG.2.1
  refine Con.of RX4 cX4_moodsSo 7 (some .int) [some (.ref (gad Γ 0)), some (.ref (gad Γ a1)), some (.int p2), some (.int p3), none, none, none] rfl rfl (by decide +kernel) hG.1 (catR (catR (catI (catI cat0)))) (Nat.le_of_ble_eq_true rfl) rfl ?_
  intro X hO
  have h := h
    (fun (l4 : Int32) (l5 : Int32) (l6 : Int32) (w : Wd) => GG Γ X (d + 1) 7 (QI Q) 11 [some (.ref (gad Γ 0)), some (.ref (gad Γ a1)), some (.int p2), some (.int p3), some (.int l4), some (.int l5), some (.int l6)] [] w)
    (by
        intro l4 l5 l6 w h
        refine G_iload hO dX4_moodsSo_11 rfl ?_
        refine G_bipush (v := 20) hO dX4_moodsSo_13 rfl ?_
        refine G_icmp_gt (tgt := 76) hO dX4_moodsSo_15 (by decide) (fun c1 => ?_) (fun c1 => ?_)
        · have h := h.1 c1
          refine G_iload_n hO dX4_moodsSo_76 rfl rfl ?_
          refine G_if_eq (tgt := 85) hO dX4_moodsSo_77 (by decide) (fun c2 => ?_) (fun c2 => ?_)
          · have h := h.1 c2
            refine G_iload hO dX4_moodsSo_85 rfl ?_
            exact G_iret hO dX4_moodsSo_87 rfl rfl (QI.i h)
          · have h := h.2 c2
            refine G_iload hO dX4_moodsSo_80 rfl ?_
            refine G_goto (tgt := 87) hO dX4_moodsSo_82 (by decide) ?_
            exact G_iret hO dX4_moodsSo_87 rfl rfl (QI.i h)
        · have h := h.2 c1
          refine G_aload_n hO dX4_moodsSo_18 rfl rfl ?_
          refine gr_X4_43 (c := 39) hO dX4_moodsSo_19 (ShC.c0 hC) rfl ?_
          refine G_aload_n hO dX4_moodsSo_22 rfl rfl ?_
          refine gr_X4_39 (c := 32) hO dX4_moodsSo_23 (ShC.c0 hC) rfl ?_
          refine G_callVv hO dX4_moodsSo_26 h cl_X4_116 (ShC.f39 hC).1 rfl rfl (Nat.le_of_ble_eq_true rfl) (fun w4 h => ?_) rfl
          refine G_aload_n hO dX4_moodsSo_29 rfl rfl ?_
          refine gr_X4_43 (c := 39) hO dX4_moodsSo_30 (ShC.c0 hC) rfl ?_
          refine gr_X4_100 (c := 42) hO dX4_moodsSo_33 (ShC.f39 hC).1 rfl ?_
          refine G_iload_n hO dX4_moodsSo_36 rfl rfl ?_
          refine G_iload hO dX4_moodsSo_37 rfl ?_
          obtain ⟨c5, h⟩ := h
          refine G_iastore hO dX4_moodsSo_39 (ShC.f39 hC).2.2.2.1 c5 ?_
          refine GG.nmw (fun w6 e7 => ?_)
          have h := h w6 e7
          refine G_aload_n hO dX4_moodsSo_40 rfl rfl ?_
          refine GG.atpc (pc2 := 41) rfl ?_
          refine gr_X4_43 (c := 39) hO dX4_moodsSo_41 (ShC.c0 hC) rfl ?_
          refine G_aload_n hO dX4_moodsSo_44 rfl rfl ?_
          refine G_iload_n hO dX4_moodsSo_45 rfl rfl ?_
          refine G_callVi hO dX4_moodsSo_46 h cl_X4_206 (ShC.f39 hC).1 rfl rfl (Nat.le_of_ble_eq_true rfl) (fun r8 w9 h => ?_) rfl
          refine G_iconst (v := -1) hO dX4_moodsSo_49 rfl ?_
          refine G_icmp_ne (tgt := 70) hO dX4_moodsSo_50 (by decide) (fun c10 => ?_) (fun c10 => ?_)
          · have h := h.1 c10
            refine G_iinc (v := (l6 + 1)) (lv2 := [some (.ref (gad Γ 0)), some (.ref (gad Γ a1)), some (.int p2), some (.int p3), some (.int l4), some (.int l5), some (.int (l6 + 1))]) hO dX4_moodsSo_70 rfl rfl (by decide) rfl rfl ?_
            refine G_goto (tgt := 11) hO dX4_moodsSo_73 (by decide) ?_
            exact GG.sub (lv2 := [some (.ref (gad Γ 0)), some (.ref (gad Γ a1)), some (.int p2), some (.int p3), some (.int l4), some (.int l5), some (.int (l6 + 1))]) ⟨rfl, ⟨rfl, ⟨rfl, ⟨rfl, ⟨rfl, ⟨rfl, ⟨rfl, trivial⟩⟩⟩⟩⟩⟩⟩ h
          · have h := h.2 c10
            refine G_iload hO dX4_moodsSo_53 rfl ?_
            refine G_if_ne (tgt := 63) hO dX4_moodsSo_55 (by decide) (fun c11 => ?_) (fun c11 => ?_)
            · have h := h.1 c11
              refine G_iload hO dX4_moodsSo_63 rfl ?_
              refine G_istore (lv2 := [some (.ref (gad Γ 0)), some (.ref (gad Γ a1)), some (.int p2), some (.int p3), some (.int l4), some (.int l5), some (.int l6)]) hO dX4_moodsSo_65 (by decide) rfl rfl ?_
              refine G_iinc (v := (l4 + 1)) (lv2 := [some (.ref (gad Γ 0)), some (.ref (gad Γ a1)), some (.int p2), some (.int p3), some (.int (l4 + 1)), some (.int l5), some (.int l6)]) hO dX4_moodsSo_67 rfl rfl (by decide) rfl rfl ?_
              refine G_iinc (v := (l6 + 1)) (lv2 := [some (.ref (gad Γ 0)), some (.ref (gad Γ a1)), some (.int p2), some (.int p3), some (.int (l4 + 1)), some (.int l5), some (.int (l6 + 1))]) hO dX4_moodsSo_70 rfl rfl (by decide) rfl rfl ?_
              refine G_goto (tgt := 11) hO dX4_moodsSo_73 (by decide) ?_
              exact GG.sub (lv2 := [some (.ref (gad Γ 0)), some (.ref (gad Γ a1)), some (.int p2), some (.int p3), some (.int (l4 + 1)), some (.int l5), some (.int (l6 + 1))]) ⟨rfl, ⟨rfl, ⟨rfl, ⟨rfl, ⟨rfl, ⟨rfl, ⟨rfl, trivial⟩⟩⟩⟩⟩⟩⟩ h
            · have h := h.2 c11
              refine G_iload hO dX4_moodsSo_58 rfl ?_
              refine G_goto (tgt := 65) hO dX4_moodsSo_60 (by decide) ?_
              refine G_istore (lv2 := [some (.ref (gad Γ 0)), some (.ref (gad Γ a1)), some (.int p2), some (.int p3), some (.int l4), some (.int l6), some (.int l6)]) hO dX4_moodsSo_65 (by decide) rfl rfl ?_
              refine G_iinc (v := (l4 + 1)) (lv2 := [some (.ref (gad Γ 0)), some (.ref (gad Γ a1)), some (.int p2), some (.int p3), some (.int (l4 + 1)), some (.int l6), some (.int l6)]) hO dX4_moodsSo_67 rfl rfl (by decide) rfl rfl ?_
              refine G_iinc (v := (l6 + 1)) (lv2 := [some (.ref (gad Γ 0)), some (.ref (gad Γ a1)), some (.int p2), some (.int p3), some (.int (l4 + 1)), some (.int l6), some (.int (l6 + 1))]) hO dX4_moodsSo_70 rfl rfl (by decide) rfl rfl ?_
              refine G_goto (tgt := 11) hO dX4_moodsSo_73 (by decide) ?_
              exact GG.sub (lv2 := [some (.ref (gad Γ 0)), some (.ref (gad Γ a1)), some (.int p2), some (.int p3), some (.int (l4 + 1)), some (.int l6), some (.int (l6 + 1))]) ⟨rfl, ⟨rfl, ⟨rfl, ⟨rfl, ⟨rfl, ⟨rfl, ⟨rfl, trivial⟩⟩⟩⟩⟩⟩⟩ h)
  refine G_iconst (v := 0) hO dX4_moodsSo_0 rfl ?_
  refine G_istore (lv2 := [some (.ref (gad Γ 0)), some (.ref (gad Γ a1)), some (.int p2), some (.int p3), some (.int (0 : Int32)), none, none]) hO dX4_moodsSo_1 (by decide) rfl rfl ?_
  refine G_bipush (v := -100) hO dX4_moodsSo_3 rfl ?_
  refine G_istore (lv2 := [some (.ref (gad Γ 0)), some (.ref (gad Γ a1)), some (.int p2), some (.int p3), some (.int (0 : Int32)), some (.int (-100 : Int32)), none]) hO dX4_moodsSo_5 (by decide) rfl rfl ?_
  refine G_bipush (v := -20) hO dX4_moodsSo_7 rfl ?_
  refine G_istore (lv2 := [some (.ref (gad Γ 0)), some (.ref (gad Γ a1)), some (.int p2), some (.int p3), some (.int (0 : Int32)), some (.int (-100 : Int32)), some (.int (-20 : Int32))]) hO dX4_moodsSo_9 (by decide) rfl rfl ?_
  exact GG.sub (lv2 := [some (.ref (gad Γ 0)), some (.ref (gad Γ a1)), some (.int p2), some (.int p3), some (.int (0 : Int32)), some (.int (-100 : Int32)), some (.int (-20 : Int32))]) ⟨rfl, ⟨rfl, ⟨rfl, ⟨rfl, ⟨rfl, ⟨rfl, ⟨rfl, trivial⟩⟩⟩⟩⟩⟩⟩ h
def wp_X4_film (Γ : Gx) (d : Nat) (p1 : Int32) (p2 : Int32) (p3 : Int32) (w : Wd) (Q : Int32 → Wd → Prop) : Prop :=
  ∀ (P_57 : Int32 → Wd → Prop),
  (∀ (l5 : Int32) (w : Wd), (ShS Γ (rfa sheetCells (p1).toNatClampNeg) ∧ ((p3 ≤ l5 → Q p3 w) ∧ (¬ p3 ≤ l5 → CI Γ d M_X0_passSunday [.ref (gad Γ 39)] w (fun r18 w19 => (vp_in p2 5 ∧ CV Γ d M_X2_put [.ref (gad Γ (rfa sheetCells (p1).toNatClampNeg)), .int l5, .int (w19 42 (p2).toNatClampNeg)] w19 (fun w22 => P_57 (l5 + 1) w22)))))) → P_57 l5 w) →
  CI Γ d M_X4_isSheet [.int p1] w (fun r1 w2 => ((r1 = 0 → Q (-2 : Int32) w2) ∧ (¬ r1 = 0 → CI Γ d M_X4_isPerson [.ref (gad Γ 0), .int p2] w2 (fun r4 w5 => ((r4 = 0 → Q (-2 : Int32) w5) ∧ (¬ r4 = 0 → CI Γ d M_X4_isIn [.int p3, .int (0 : Int32), .int (10 : Int32)] w5 (fun r7 w8 => ((¬ r7 = 0 → (vp_in p1 4 ∧ (ShS Γ (rfa sheetCells (p1).toNatClampNeg) ∧ CV Γ d M_X2_clear [.ref (gad Γ (rfa sheetCells (p1).toNatClampNeg)), .int (0 : Int32), .int p3] w8 (fun w13 => CV Γ d M_X0_becomeLike [.ref (gad Γ 39), .ref (gad Γ 32)] w13 (fun w15 => P_57 (0 : Int32) w15))))) ∧ (r7 = 0 → Q (-2 : Int32) w8)))))))))
set_option maxRecDepth 20000 in
theorem con_X4_film {Γ : Gx} {d : Nat} (hG : GC Γ) {p1 : Int32} {p2 : Int32} {p3 : Int32}  {w : Wd} {Q : Int32 → Wd → Prop} (h : wp_X4_film Γ d p1 p2 p3 w Q) : CI Γ (d + 1) M_X4_film [.ref (gad Γ 0), .int p1, .int p2, .int p3] w Q := by
  have hC := hG.2.1
  refine Con.of RX4 cX4_film 6 (some .int) [some (.ref (gad Γ 0)), some (.int p1), some (.int p2), some (.int p3), none, none] rfl rfl (by decide +kernel) hG.1 (catR (catI (catI (catI cat0)))) (Nat.le_of_ble_eq_true rfl) rfl ?_
  intro X hO
  have h := h
    (fun (l5 : Int32) (w : Wd) => GG Γ X (d + 1) 6 (QI Q) 57 [some (.ref (gad Γ 0)), none, some (.int p2), some (.int p3), some (.ref (gad Γ (rfa sheetCells (p1).toNatClampNeg))), some (.int l5)] [] w)
    (by
        intro l5 w h
        obtain ⟨c16, h⟩ := h
        refine G_iload hO dX4_film_57 rfl ?_
        refine G_iload_n hO dX4_film_59 rfl rfl ?_
        refine G_icmp_ge (tgt := 93) hO dX4_film_60 (by decide) (fun c17 => ?_) (fun c17 => ?_)
        · have h := h.1 c17
          refine G_iload_n hO dX4_film_93 rfl rfl ?_
          exact G_iret hO dX4_film_94 rfl rfl (QI.i h)
        · have h := h.2 c17
          refine G_aload_n hO dX4_film_63 rfl rfl ?_
          refine gr_X4_43 (c := 39) hO dX4_film_64 (ShC.c0 hC) rfl ?_
          refine G_callVi hO dX4_film_67 h cl_X4_120 (ShC.f39 hC).1 rfl rfl (Nat.le_of_ble_eq_true rfl) (fun r18 w19 h => ?_) rfl
          refine G_pop hO dX4_film_70 rfl ?_
          refine G_aload hO dX4_film_71 rfl ?_
          refine G_iload hO dX4_film_73 rfl ?_
          refine G_aload_n hO dX4_film_75 rfl rfl ?_
          refine gr_X4_43 (c := 39) hO dX4_film_76 (ShC.c0 hC) rfl ?_
          refine gr_X4_100 (c := 42) hO dX4_film_79 (ShC.f39 hC).1 rfl ?_
          refine G_iload_n hO dX4_film_82 rfl rfl ?_
          obtain ⟨c20, h⟩ := h
          refine G_iaload hO dX4_film_83 (ShC.f39 hC).2.2.2.1 c20 ?_
          refine G_callVv hO dX4_film_84 h cl_X4_222 c16.1 rfl rfl (Nat.le_of_ble_eq_true rfl) (fun w22 h => ?_) rfl
          refine GG.atpc (pc2 := 87) rfl ?_
          refine G_iinc (v := (l5 + 1)) (lv2 := [some (.ref (gad Γ 0)), none, some (.int p2), some (.int p3), some (.ref (gad Γ (rfa sheetCells (p1).toNatClampNeg))), some (.int (l5 + 1))]) hO dX4_film_87 rfl rfl (by decide) rfl rfl ?_
          refine G_goto (tgt := 57) hO dX4_film_90 (by decide) ?_
          exact GG.sub (lv2 := [some (.ref (gad Γ 0)), none, some (.int p2), some (.int p3), some (.ref (gad Γ (rfa sheetCells (p1).toNatClampNeg))), some (.int (l5 + 1))]) ⟨rfl, ⟨rfl, ⟨rfl, ⟨rfl, ⟨rfl, trivial⟩⟩⟩⟩⟩ h)
  refine G_iload_n hO dX4_film_0 rfl rfl ?_
  refine G_callSi hO dX4_film_1 h cl_X4_199 rfl (Nat.le_of_ble_eq_true rfl) (fun r1 w2 h => ?_) rfl
  refine G_if_eq (tgt := 25) hO dX4_film_4 (by decide) (fun c3 => ?_) (fun c3 => ?_)
  · have h := h.1 c3
    refine G_bipush (v := -2) hO dX4_film_25 rfl ?_
    exact G_iret hO dX4_film_27 rfl rfl (QI.i h)
  · have h := h.2 c3
    refine G_aload_n hO dX4_film_7 rfl rfl ?_
    refine G_iload_n hO dX4_film_8 rfl rfl ?_
    refine G_callVi hO dX4_film_9 h cl_X4_124 (ShC.c0 hC) rfl rfl (Nat.le_of_ble_eq_true rfl) (fun r4 w5 h => ?_) rfl
    refine G_if_eq (tgt := 25) hO dX4_film_12 (by decide) (fun c6 => ?_) (fun c6 => ?_)
    · have h := h.1 c6
      refine G_bipush (v := -2) hO dX4_film_25 rfl ?_
      exact G_iret hO dX4_film_27 rfl rfl (QI.i h)
    · have h := h.2 c6
      refine G_iload_n hO dX4_film_15 rfl rfl ?_
      refine G_iconst (v := 0) hO dX4_film_16 rfl ?_
      refine G_bipush (v := 10) hO dX4_film_17 rfl ?_
      refine G_callSi hO dX4_film_19 h cl_X4_76 rfl (Nat.le_of_ble_eq_true rfl) (fun r7 w8 h => ?_) rfl
      refine G_if_ne (tgt := 28) hO dX4_film_22 (by decide) (fun c9 => ?_) (fun c9 => ?_)
      · have h := h.1 c9
        refine G_aload_n hO dX4_film_28 rfl rfl ?_
        refine gr_X4_17 (c := 2) hO dX4_film_29 (ShC.c0 hC) rfl ?_
        refine G_iload_n hO dX4_film_32 rfl rfl ?_
        obtain ⟨c10, h⟩ := h
        obtain ⟨c11, h⟩ := h
        refine G_aaS hO dX4_film_33 (ShC.c2 hC) c10 ?_
        refine G_astore (lv2 := [some (.ref (gad Γ 0)), some (.int p1), some (.int p2), some (.int p3), some (.ref (gad Γ (rfa sheetCells (p1).toNatClampNeg))), none]) hO dX4_film_34 (by decide) rfl rfl ?_
        refine G_aload hO dX4_film_36 rfl ?_
        refine G_iconst (v := 0) hO dX4_film_38 rfl ?_
        refine G_iload_n hO dX4_film_39 rfl rfl ?_
        refine G_callVv hO dX4_film_40 h cl_X4_218 c11.1 rfl rfl (Nat.le_of_ble_eq_true rfl) (fun w13 h => ?_) rfl
        refine G_aload_n hO dX4_film_43 rfl rfl ?_
        refine gr_X4_43 (c := 39) hO dX4_film_44 (ShC.c0 hC) rfl ?_
        refine G_aload_n hO dX4_film_47 rfl rfl ?_
        refine GG.atpc (pc2 := 48) rfl ?_
        refine gr_X4_39 (c := 32) hO dX4_film_48 (ShC.c0 hC) rfl ?_
        refine G_callVv hO dX4_film_51 h cl_X4_116 (ShC.f39 hC).1 rfl rfl (Nat.le_of_ble_eq_true rfl) (fun w15 h => ?_) rfl
        refine G_iconst (v := 0) hO dX4_film_54 rfl ?_
        refine G_istore (lv2 := [some (.ref (gad Γ 0)), some (.int p1), some (.int p2), some (.int p3), some (.ref (gad Γ (rfa sheetCells (p1).toNatClampNeg))), some (.int (0 : Int32))]) hO dX4_film_55 (by decide) rfl rfl ?_
        exact GG.sub (lv2 := [some (.ref (gad Γ 0)), none, some (.int p2), some (.int p3), some (.ref (gad Γ (rfa sheetCells (p1).toNatClampNeg))), some (.int (0 : Int32))]) ⟨rfl, ⟨rfl, ⟨rfl, ⟨rfl, ⟨rfl, trivial⟩⟩⟩⟩⟩ h
      · have h := h.2 c9
        refine G_bipush (v := -2) hO dX4_film_25 rfl ?_
        exact G_iret hO dX4_film_27 rfl rfl (QI.i h)
def wp_X4_drawn (Γ : Gx) (d : Nat) (p1 : Int32) (w : Wd) (Q : Int32 → Wd → Prop) : Prop :=
  CV Γ d M_X0_becomeLike [.ref (gad Γ 39), .ref (gad Γ 32)] w (fun w2 => CV Γ d M_X0_drawMoods [.ref (gad Γ 39), .int p1] w2 (fun w4 => CI Γ d M_X0_gladBehind [.ref (gad Γ 39), .int (5 : Int32)] w4 (fun r5 w6 => Q r5 w6)))
set_option maxRecDepth 20000 in
theorem con_X4_drawn {Γ : Gx} {d : Nat} (hG : GC Γ) {p1 : Int32}  {w : Wd} {Q : Int32 → Wd → Prop} (h : wp_X4_drawn Γ d p1 w Q) : CI Γ (d + 1) M_X4_drawn [.ref (gad Γ 0), .int p1] w Q := by
  have hC := hG.2.1
  refine Con.of RX4 cX4_drawn 2 (some .int) [some (.ref (gad Γ 0)), some (.int p1)] rfl rfl (by decide +kernel) hG.1 (catR (catI cat0)) (Nat.le_of_ble_eq_true rfl) rfl ?_
  intro X hO
  refine G_aload_n hO dX4_drawn_0 rfl rfl ?_
  refine gr_X4_43 (c := 39) hO dX4_drawn_1 (ShC.c0 hC) rfl ?_
  refine G_aload_n hO dX4_drawn_4 rfl rfl ?_
  refine gr_X4_39 (c := 32) hO dX4_drawn_5 (ShC.c0 hC) rfl ?_
  refine G_callVv hO dX4_drawn_8 h cl_X4_116 (ShC.f39 hC).1 rfl rfl (Nat.le_of_ble_eq_true rfl) (fun w2 h => ?_) rfl
  refine G_aload_n hO dX4_drawn_11 rfl rfl ?_
  refine gr_X4_43 (c := 39) hO dX4_drawn_12 (ShC.c0 hC) rfl ?_
  refine G_iload_n hO dX4_drawn_15 rfl rfl ?_
  refine G_callVv hO dX4_drawn_16 h cl_X4_225 (ShC.f39 hC).1 rfl rfl (Nat.le_of_ble_eq_true rfl) (fun w4 h => ?_) rfl
  refine G_aload_n hO dX4_drawn_19 rfl rfl ?_
  refine gr_X4_43 (c := 39) hO dX4_drawn_20 (ShC.c0 hC) rfl ?_
  refine G_iconst (v := 5) hO dX4_drawn_23 rfl ?_
  refine GG.atpc (pc2 := 24) rfl ?_
  refine G_callVi hO dX4_drawn_24 h cl_X4_158 (ShC.f39 hC).1 rfl rfl (Nat.le_of_ble_eq_true rfl) (fun r5 w6 h => ?_) rfl
  exact G_iret hO dX4_drawn_27 rfl rfl (QI.i h)
def wp_X4_chance (Γ : Gx) (d : Nat) (p1 : Int32) (p2 : Int32) (p3 : Int32) (p4 : Int32) (w : Wd) (Q : Int64 → Wd → Prop) : Prop :=
  ∀ (P_41 : Int32 → Int32 → Wd → Prop),
  (∀ (l5 : Int32) (l6 : Int32) (w : Wd), ((p2 ≤ l6 → CI Γ d M_X4_sharedDivisor [.int l5, .int p2] w (fun r11 w12 => ((¬ p4 = 0 → (¬ r11 = 0 ∧ Q ((p2 / r11).toInt64) w12)) ∧ (p4 = 0 → (¬ r11 = 0 ∧ Q ((l5 / r11).toInt64) w12))))) ∧ (¬ p2 ≤ l6 → CV Γ d M_X0_becomeLike [.ref (gad Γ 39), .ref (gad Γ 32)] w (fun w17 => CV Γ d M_X0_drawMoods [.ref (gad Γ 39), .int (p1 + l6)] w17 (fun w19 => CI Γ d M_X0_gladBehind [.ref (gad Γ 39), .int (5 : Int32)] w19 (fun r20 w21 => ((r20 < p3 → P_41 l5 (l6 + 1) w21) ∧ (¬ r20 < p3 → P_41 (l5 + 1) (l6 + 1) w21))))))) → P_41 l5 l6 w) →
  CI Γ d M_X4_isIn [.int p2, .int (1 : Int32), .int (20 : Int32)] w (fun r1 w2 => ((r1 = 0 → Q (-4611686018427387904 : Int64) w2) ∧ (¬ r1 = 0 → CI Γ d M_X4_isIn [.int p3, .int (-100 : Int32), .int (100 : Int32)] w2 (fun r4 w5 => ((r4 = 0 → Q (-4611686018427387904 : Int64) w5) ∧ (¬ r4 = 0 → CI Γ d M_X4_isIn [.int p4, .int (0 : Int32), .int (1 : Int32)] w5 (fun r7 w8 => ((¬ r7 = 0 → P_41 (0 : Int32) (0 : Int32) w8) ∧ (r7 = 0 → Q (-4611686018427387904 : Int64) w8)))))))))
set_option maxRecDepth 20000 in
theorem con_X4_chance {Γ : Gx} {d : Nat} (hG : GC Γ) {p1 : Int32} {p2 : Int32} {p3 : Int32} {p4 : Int32}  {w : Wd} {Q : Int64 → Wd → Prop} (h : wp_X4_chance Γ d p1 p2 p3 p4 w Q) : CL Γ (d + 1) M_X4_chance [.ref (gad Γ 0), .int p1, .int p2, .int p3, .int p4] w Q := by
  have hC := hG.2.1
  refine Con.of RX4 cX4_chance 7 (some .long) [some (.ref (gad Γ 0)), some (.int p1), some (.int p2), some (.int p3), some (.int p4), none, none] rfl rfl (by decide +kernel) hG.1 (catR (catI (catI (catI (catI cat0))))) (Nat.le_of_ble_eq_true rfl) rfl ?_
  intro X hO
  have h := h
    (fun (l5 : Int32) (l6 : Int32) (w : Wd) => GG Γ X (d + 1) 7 (QL Q) 41 [some (.ref (gad Γ 0)), some (.int p1), some (.int p2), some (.int p3), some (.int p4), some (.int l5), some (.int l6)] [] w)
    (by
        intro l5 l6 w h
        refine G_iload hO dX4_chance_41 rfl ?_
        refine G_iload_n hO dX4_chance_43 rfl rfl ?_
        refine G_icmp_ge (tgt := 90) hO dX4_chance_44 (by decide) (fun c10 => ?_) (fun c10 => ?_)
        · have h := h.1 c10
          refine G_iload hO dX4_chance_90 rfl ?_
          refine G_iload_n hO dX4_chance_92 rfl rfl ?_
          refine G_callSi hO dX4_chance_93 h cl_X4_231 rfl (Nat.le_of_ble_eq_true rfl) (fun r11 w12 h => ?_) rfl
          refine G_istore (lv2 := [some (.ref (gad Γ 0)), some (.int p1), some (.int p2), some (.int p3), some (.int p4), some (.int l5), some (.int r11)]) hO dX4_chance_96 (by decide) rfl rfl ?_
          refine G_iload hO dX4_chance_98 rfl ?_
          refine G_if_ne (tgt := 112) hO dX4_chance_100 (by decide) (fun c13 => ?_) (fun c13 => ?_)
          · have h := h.1 c13
            refine G_iload_n hO dX4_chance_112 rfl rfl ?_
            refine G_iload hO dX4_chance_113 rfl ?_
            obtain ⟨c14, h⟩ := h
            refine G_idiv hO dX4_chance_115 c14 ?_
            refine G_i2l hO dX4_chance_116 ?_
            exact G_lret hO dX4_chance_117 rfl (QL.i h)
          · have h := h.2 c13
            refine G_iload hO dX4_chance_103 rfl ?_
            refine G_iload hO dX4_chance_105 rfl ?_
            obtain ⟨c15, h⟩ := h
            refine G_idiv hO dX4_chance_107 c15 ?_
            refine G_i2l hO dX4_chance_108 ?_
            refine G_goto (tgt := 117) hO dX4_chance_109 (by decide) ?_
            exact G_lret hO dX4_chance_117 rfl (QL.i h)
        · have h := h.2 c10
          refine G_aload_n hO dX4_chance_47 rfl rfl ?_
          refine gr_X4_43 (c := 39) hO dX4_chance_48 (ShC.c0 hC) rfl ?_
          refine G_aload_n hO dX4_chance_51 rfl rfl ?_
          refine gr_X4_39 (c := 32) hO dX4_chance_52 (ShC.c0 hC) rfl ?_
          refine G_callVv hO dX4_chance_55 h cl_X4_116 (ShC.f39 hC).1 rfl rfl (Nat.le_of_ble_eq_true rfl) (fun w17 h => ?_) rfl
          refine G_aload_n hO dX4_chance_58 rfl rfl ?_
          refine gr_X4_43 (c := 39) hO dX4_chance_59 (ShC.c0 hC) rfl ?_
          refine G_iload_n hO dX4_chance_62 rfl rfl ?_
          refine G_iload hO dX4_chance_63 rfl ?_
          refine G_iadd hO dX4_chance_65 ?_
          refine G_callVv hO dX4_chance_66 h cl_X4_225 (ShC.f39 hC).1 rfl rfl (Nat.le_of_ble_eq_true rfl) (fun w19 h => ?_) rfl
          refine G_aload_n hO dX4_chance_69 rfl rfl ?_
          refine GG.atpc (pc2 := 70) rfl ?_
          refine gr_X4_43 (c := 39) hO dX4_chance_70 (ShC.c0 hC) rfl ?_
          refine G_iconst (v := 5) hO dX4_chance_73 rfl ?_
          refine G_callVi hO dX4_chance_74 h cl_X4_158 (ShC.f39 hC).1 rfl rfl (Nat.le_of_ble_eq_true rfl) (fun r20 w21 h => ?_) rfl
          refine G_iload_n hO dX4_chance_77 rfl rfl ?_
          refine G_icmp_lt (tgt := 84) hO dX4_chance_78 (by decide) (fun c22 => ?_) (fun c22 => ?_)
          · have h := h.1 c22
            refine G_iinc (v := (l6 + 1)) (lv2 := [some (.ref (gad Γ 0)), some (.int p1), some (.int p2), some (.int p3), some (.int p4), some (.int l5), some (.int (l6 + 1))]) hO dX4_chance_84 rfl rfl (by decide) rfl rfl ?_
            refine G_goto (tgt := 41) hO dX4_chance_87 (by decide) ?_
            exact GG.sub (lv2 := [some (.ref (gad Γ 0)), some (.int p1), some (.int p2), some (.int p3), some (.int p4), some (.int l5), some (.int (l6 + 1))]) ⟨rfl, ⟨rfl, ⟨rfl, ⟨rfl, ⟨rfl, ⟨rfl, ⟨rfl, trivial⟩⟩⟩⟩⟩⟩⟩ h
          · have h := h.2 c22
            refine G_iinc (v := (l5 + 1)) (lv2 := [some (.ref (gad Γ 0)), some (.int p1), some (.int p2), some (.int p3), some (.int p4), some (.int (l5 + 1)), some (.int l6)]) hO dX4_chance_81 rfl rfl (by decide) rfl rfl ?_
            refine G_iinc (v := (l6 + 1)) (lv2 := [some (.ref (gad Γ 0)), some (.int p1), some (.int p2), some (.int p3), some (.int p4), some (.int (l5 + 1)), some (.int (l6 + 1))]) hO dX4_chance_84 rfl rfl (by decide) rfl rfl ?_
            refine G_goto (tgt := 41) hO dX4_chance_87 (by decide) ?_
            exact GG.sub (lv2 := [some (.ref (gad Γ 0)), some (.int p1), some (.int p2), some (.int p3), some (.int p4), some (.int (l5 + 1)), some (.int (l6 + 1))]) ⟨rfl, ⟨rfl, ⟨rfl, ⟨rfl, ⟨rfl, ⟨rfl, ⟨rfl, trivial⟩⟩⟩⟩⟩⟩⟩ h)
  refine G_iload_n hO dX4_chance_0 rfl rfl ?_
  refine G_iconst (v := 1) hO dX4_chance_1 rfl ?_
  refine G_bipush (v := 20) hO dX4_chance_2 rfl ?_
  refine G_callSi hO dX4_chance_4 h cl_X4_76 rfl (Nat.le_of_ble_eq_true rfl) (fun r1 w2 h => ?_) rfl
  refine G_if_eq (tgt := 31) hO dX4_chance_7 (by decide) (fun c3 => ?_) (fun c3 => ?_)
  · have h := h.1 c3
    refine G_ldc2_w (v := -4611686018427387904) hO dX4_chance_31 kc_X4_229 ?_
    exact G_lret hO dX4_chance_34 rfl (QL.i h)
  · have h := h.2 c3
    refine G_iload_n hO dX4_chance_10 rfl rfl ?_
    refine G_bipush (v := -100) hO dX4_chance_11 rfl ?_
    refine G_bipush (v := 100) hO dX4_chance_13 rfl ?_
    refine G_callSi hO dX4_chance_15 h cl_X4_76 rfl (Nat.le_of_ble_eq_true rfl) (fun r4 w5 h => ?_) rfl
    refine G_if_eq (tgt := 31) hO dX4_chance_18 (by decide) (fun c6 => ?_) (fun c6 => ?_)
    · have h := h.1 c6
      refine G_ldc2_w (v := -4611686018427387904) hO dX4_chance_31 kc_X4_229 ?_
      exact G_lret hO dX4_chance_34 rfl (QL.i h)
    · have h := h.2 c6
      refine G_iload hO dX4_chance_21 rfl ?_
      refine G_iconst (v := 0) hO dX4_chance_23 rfl ?_
      refine G_iconst (v := 1) hO dX4_chance_24 rfl ?_
      refine G_callSi hO dX4_chance_25 h cl_X4_76 rfl (Nat.le_of_ble_eq_true rfl) (fun r7 w8 h => ?_) rfl
      refine G_if_ne (tgt := 35) hO dX4_chance_28 (by decide) (fun c9 => ?_) (fun c9 => ?_)
      · have h := h.1 c9
        refine G_iconst (v := 0) hO dX4_chance_35 rfl ?_
        refine G_istore (lv2 := [some (.ref (gad Γ 0)), some (.int p1), some (.int p2), some (.int p3), some (.int p4), some (.int (0 : Int32)), none]) hO dX4_chance_36 (by decide) rfl rfl ?_
        refine G_iconst (v := 0) hO dX4_chance_38 rfl ?_
        refine G_istore (lv2 := [some (.ref (gad Γ 0)), some (.int p1), some (.int p2), some (.int p3), some (.int p4), some (.int (0 : Int32)), some (.int (0 : Int32))]) hO dX4_chance_39 (by decide) rfl rfl ?_
        exact GG.sub (lv2 := [some (.ref (gad Γ 0)), some (.int p1), some (.int p2), some (.int p3), some (.int p4), some (.int (0 : Int32)), some (.int (0 : Int32))]) ⟨rfl, ⟨rfl, ⟨rfl, ⟨rfl, ⟨rfl, ⟨rfl, ⟨rfl, trivial⟩⟩⟩⟩⟩⟩⟩ h
      · have h := h.2 c9
        refine G_ldc2_w (v := -4611686018427387904) hO dX4_chance_31 kc_X4_229 ?_
        exact G_lret hO dX4_chance_34 rfl (QL.i h)
def wp_X4_sharedDivisor (Γ : Gx) (d : Nat) (p1 : Int32) (p2 : Int32) (w : Wd) (Q : Int32 → Wd → Prop) : Prop :=
  ∀ (P_2 : Int32 → Wd → Prop),
  (∀ (l2 : Int32) (w : Wd), ((l2 ≤ (1 : Int32) → Q (1 : Int32) w) ∧ (¬ l2 ≤ (1 : Int32) → (¬ l2 = 0 ∧ ((¬ (p1 - (p1 / l2) * l2) = 0 → P_2 (l2 + (-1)) w) ∧ ((p1 - (p1 / l2) * l2) = 0 → (¬ l2 = 0 ∧ ((¬ (p2 - (p2 / l2) * l2) = 0 → P_2 (l2 + (-1)) w) ∧ ((p2 - (p2 / l2) * l2) = 0 → Q l2 w)))))))) → P_2 l2 w) →
  P_2 p2 w
set_option maxRecDepth 20000 in
theorem con_X4_sharedDivisor {Γ : Gx} {d : Nat} (hG : GC Γ) {p1 : Int32} {p2 : Int32}  {w : Wd} {Q : Int32 → Wd → Prop} (h : wp_X4_sharedDivisor Γ d p1 p2 w Q) : CI Γ (d + 1) M_X4_sharedDivisor [.int p1, .int p2] w Q := by
  have hC := hG.2.1
  refine Con.of RX4 cX4_sharedDivisor 3 (some .int) [some (.int p1), some (.int p2), none] rfl rfl (by decide +kernel) hG.1 (catI (catI cat0)) (Nat.le_of_ble_eq_true rfl) rfl ?_
  intro X hO
  have h := h
    (fun (l2 : Int32) (w : Wd) => GG Γ X (d + 1) 3 (QI Q) 2 [some (.int p1), some (.int p2), some (.int l2)] [] w)
    (by
        intro l2 w h
        refine G_iload_n hO dX4_sharedDivisor_2 rfl rfl ?_
        refine G_iconst (v := 1) hO dX4_sharedDivisor_3 rfl ?_
        refine G_icmp_le (tgt := 27) hO dX4_sharedDivisor_4 (by decide) (fun c1 => ?_) (fun c1 => ?_)
        · have h := h.1 c1
          refine G_iconst (v := 1) hO dX4_sharedDivisor_27 rfl ?_
          exact G_iret hO dX4_sharedDivisor_28 rfl rfl (QI.i h)
        · have h := h.2 c1
          refine G_iload_n hO dX4_sharedDivisor_7 rfl rfl ?_
          refine G_iload_n hO dX4_sharedDivisor_8 rfl rfl ?_
          obtain ⟨c2, h⟩ := h
          refine G_irem hO dX4_sharedDivisor_9 c2 ?_
          refine G_if_ne (tgt := 21) hO dX4_sharedDivisor_10 (by decide) (fun c3 => ?_) (fun c3 => ?_)
          · have h := h.1 c3
            refine G_iinc (v := (l2 + (-1))) (lv2 := [some (.int p1), some (.int p2), some (.int (l2 + (-1)))]) hO dX4_sharedDivisor_21 rfl rfl (by decide) rfl rfl ?_
            refine G_goto (tgt := 2) hO dX4_sharedDivisor_24 (by decide) ?_
            exact GG.sub (lv2 := [some (.int p1), some (.int p2), some (.int (l2 + (-1)))]) ⟨rfl, ⟨rfl, ⟨rfl, trivial⟩⟩⟩ h
          · have h := h.2 c3
            refine G_iload_n hO dX4_sharedDivisor_13 rfl rfl ?_
            refine G_iload_n hO dX4_sharedDivisor_14 rfl rfl ?_
            obtain ⟨c4, h⟩ := h
            refine G_irem hO dX4_sharedDivisor_15 c4 ?_
            refine G_if_ne (tgt := 21) hO dX4_sharedDivisor_16 (by decide) (fun c5 => ?_) (fun c5 => ?_)
            · have h := h.1 c5
              refine G_iinc (v := (l2 + (-1))) (lv2 := [some (.int p1), some (.int p2), some (.int (l2 + (-1)))]) hO dX4_sharedDivisor_21 rfl rfl (by decide) rfl rfl ?_
              refine G_goto (tgt := 2) hO dX4_sharedDivisor_24 (by decide) ?_
              exact GG.sub (lv2 := [some (.int p1), some (.int p2), some (.int (l2 + (-1)))]) ⟨rfl, ⟨rfl, ⟨rfl, trivial⟩⟩⟩ h
            · have h := h.2 c5
              refine G_iload_n hO dX4_sharedDivisor_19 rfl rfl ?_
              exact G_iret hO dX4_sharedDivisor_20 rfl rfl (QI.i h))
  refine G_iload_n hO dX4_sharedDivisor_0 rfl rfl ?_
  refine G_istore_n (lv2 := [some (.int p1), some (.int p2), some (.int p2)]) hO dX4_sharedDivisor_1 rfl (by decide) rfl rfl ?_
  exact GG.sub (lv2 := [some (.int p1), some (.int p2), some (.int p2)]) ⟨rfl, ⟨rfl, ⟨rfl, trivial⟩⟩⟩ h
def wp_X4_image (Γ : Gx) (d : Nat)  (w : Wd) (Q : Int32 → Wd → Prop) : Prop :=
  CV Γ d M_X0_becomeLike [.ref (gad Γ 46), .ref (gad Γ 32)] w (fun w2 => (∀ w3 : Wd, w3 = wset w2 0 8 (1 : Int32) → Q (w3 46 4) w3))
set_option maxRecDepth 20000 in
theorem con_X4_image {Γ : Gx} {d : Nat} (hG : GC Γ)   {w : Wd} {Q : Int32 → Wd → Prop} (h : wp_X4_image Γ d  w Q) : CI Γ (d + 1) M_X4_image [.ref (gad Γ 0)] w Q := by
  have hC := hG.2.1
  refine Con.of RX4 cX4_image 1 (some .int) [some (.ref (gad Γ 0))] rfl rfl (by decide +kernel) hG.1 (catR cat0) (Nat.le_of_ble_eq_true rfl) rfl ?_
  intro X hO
  refine G_aload_n hO dX4_image_0 rfl rfl ?_
  refine gr_X4_46 (c := 46) hO dX4_image_1 (ShC.c0 hC) rfl ?_
  refine G_aload_n hO dX4_image_4 rfl rfl ?_
  refine gr_X4_39 (c := 32) hO dX4_image_5 (ShC.c0 hC) rfl ?_
  refine G_callVv hO dX4_image_8 h cl_X4_116 (ShC.f46 hC).1 rfl rfl (Nat.le_of_ble_eq_true rfl) (fun w2 h => ?_) rfl
  refine G_aload_n hO dX4_image_11 rfl rfl ?_
  refine G_iconst (v := 1) hO dX4_image_12 rfl ?_
  refine pi_X4_234 hO dX4_image_13 (ShC.c0 hC) rfl (Or.inr rfl) ?_
  refine GG.nmw (fun w3 e4 => ?_)
  have h := h w3 e4
  refine G_aload_n hO dX4_image_16 rfl rfl ?_
  refine gr_X4_46 (c := 46) hO dX4_image_17 (ShC.c0 hC) rfl ?_
  refine gi_X4_127 hO dX4_image_20 (ShC.f46 hC).1 rfl ?_
  exact G_iret hO dX4_image_23 rfl rfl (QI.i h)
def wp_X4_back (Γ : Gx) (d : Nat)  (w : Wd) (Q : Int32 → Wd → Prop) : Prop :=
  ((¬ (w 0 8) = 0 → CV Γ d M_X0_becomeLike [.ref (gad Γ 32), .ref (gad Γ 46)] w (fun w3 => Q (w3 32 4) w3)) ∧ ((w 0 8) = 0 → Q (-3 : Int32) w))
set_option maxRecDepth 20000 in
theorem con_X4_back {Γ : Gx} {d : Nat} (hG : GC Γ)   {w : Wd} {Q : Int32 → Wd → Prop} (h : wp_X4_back Γ d  w Q) : CI Γ (d + 1) M_X4_back [.ref (gad Γ 0)] w Q := by
  have hC := hG.2.1
  refine Con.of RX4 cX4_back 1 (some .int) [some (.ref (gad Γ 0))] rfl rfl (by decide +kernel) hG.1 (catR cat0) (Nat.le_of_ble_eq_true rfl) rfl ?_
  intro X hO
  refine G_aload_n hO dX4_back_0 rfl rfl ?_
  refine gi_X4_234 hO dX4_back_1 (ShC.c0 hC) rfl ?_
  refine G_if_ne (tgt := 10) hO dX4_back_4 (by decide) (fun c1 => ?_) (fun c1 => ?_)
  · have h := h.1 c1
    refine G_aload_n hO dX4_back_10 rfl rfl ?_
    refine gr_X4_39 (c := 32) hO dX4_back_11 (ShC.c0 hC) rfl ?_
    refine G_aload_n hO dX4_back_14 rfl rfl ?_
    refine gr_X4_46 (c := 46) hO dX4_back_15 (ShC.c0 hC) rfl ?_
    refine G_callVv hO dX4_back_18 h cl_X4_116 (ShC.f32 hC).1 rfl rfl (Nat.le_of_ble_eq_true rfl) (fun w3 h => ?_) rfl
    refine G_aload_n hO dX4_back_21 rfl rfl ?_
    refine gr_X4_39 (c := 32) hO dX4_back_22 (ShC.c0 hC) rfl ?_
    refine gi_X4_127 hO dX4_back_25 (ShC.f32 hC).1 rfl ?_
    exact G_iret hO dX4_back_28 rfl rfl (QI.i h)
  · have h := h.2 c1
    refine G_bipush (v := -3) hO dX4_back_7 rfl ?_
    exact G_iret hO dX4_back_9 rfl rfl (QI.i h)
def wp_X4_count (Γ : Gx) (d : Nat) (p1 : Int32) (w : Wd) (Q : Int32 → Wd → Prop) : Prop :=
  (((p1 = (0 : Int32)) → Q (w 32 4) w) ∧ ((p1 = (1 : Int32)) → CI Γ d M_J6_bitCount_0f7a4 [.int (w 32 5)] w (fun r1 w2 => Q r1 w2)) ∧ ((p1 = (2 : Int32)) → Q (w 32 6) w) ∧ ((p1 = (3 : Int32)) → Q (w 0 7) w) ∧ ((p1 = (4 : Int32)) → Q (w 3 0) w) ∧ ((p1 = (5 : Int32)) → Q (w 32 7) w) ∧ ((¬ p1 = (0 : Int32) ∧ ¬ p1 = (1 : Int32) ∧ ¬ p1 = (2 : Int32) ∧ ¬ p1 = (3 : Int32) ∧ ¬ p1 = (4 : Int32) ∧ ¬ p1 = (5 : Int32)) → Q (-2 : Int32) w))
set_option maxRecDepth 20000 in
theorem con_X4_count {Γ : Gx} {d : Nat} (hG : GC Γ) {p1 : Int32}  {w : Wd} {Q : Int32 → Wd → Prop} (h : wp_X4_count Γ d p1 w Q) : CI Γ (d + 1) M_X4_count [.ref (gad Γ 0), .int p1] w Q := by
  have hC := hG.2.1
  refine Con.of RX4 cX4_count 2 (some .int) [some (.ref (gad Γ 0)), some (.int p1)] rfl rfl (by decide +kernel) hG.1 (catR (catI cat0)) (Nat.le_of_ble_eq_true rfl) rfl ?_
  intro X hO
  refine G_iload_n hO dX4_count_0 rfl rfl ?_
  by_cases e0 : p1 = (0 : Int32)
  · have h := h.1 e0
    refine G_tabIn (tgt := 40) (j := 0) hO dX4_count_1 (by decide) rfl (sweq e0 (by decide)) (by decide) ?_
    refine G_aload_n hO dX4_count_40 rfl rfl ?_
    refine gr_X4_39 (c := 32) hO dX4_count_41 (ShC.c0 hC) rfl ?_
    refine gi_X4_127 hO dX4_count_44 (ShC.f32 hC).1 rfl ?_
    exact G_iret hO dX4_count_47 rfl rfl (QI.i h)
  · by_cases e1 : p1 = (1 : Int32)
    · have h := h.2.1 e1
      refine G_tabIn (tgt := 48) (j := 1) hO dX4_count_1 (by decide) rfl (sweq e1 (by decide)) (by decide) ?_
      refine G_aload_n hO dX4_count_48 rfl rfl ?_
      refine gr_X4_39 (c := 32) hO dX4_count_49 (ShC.c0 hC) rfl ?_
      refine gi_X4_94 hO dX4_count_52 (ShC.f32 hC).1 rfl ?_
      refine G_callSi hO dX4_count_55 h cl_X4_141 rfl (Nat.le_of_ble_eq_true rfl) (fun r1 w2 h => ?_) rfl
      exact G_iret hO dX4_count_58 rfl rfl (QI.i h)
    · by_cases e2 : p1 = (2 : Int32)
      · have h := h.2.2.1 e2
        refine G_tabIn (tgt := 59) (j := 2) hO dX4_count_1 (by decide) rfl (sweq e2 (by decide)) (by decide) ?_
        refine G_aload_n hO dX4_count_59 rfl rfl ?_
        refine gr_X4_39 (c := 32) hO dX4_count_60 (ShC.c0 hC) rfl ?_
        refine gi_X4_91 hO dX4_count_63 (ShC.f32 hC).1 rfl ?_
        exact G_iret hO dX4_count_66 rfl rfl (QI.i h)
      · by_cases e3 : p1 = (3 : Int32)
        · have h := h.2.2.2.1 e3
          refine G_tabIn (tgt := 67) (j := 3) hO dX4_count_1 (by decide) rfl (sweq e3 (by decide)) (by decide) ?_
          refine G_aload_n hO dX4_count_67 rfl rfl ?_
          refine gi_X4_73 hO dX4_count_68 (ShC.c0 hC) rfl ?_
          exact G_iret hO dX4_count_71 rfl rfl (QI.i h)
        · by_cases e4 : p1 = (4 : Int32)
          · have h := h.2.2.2.2.1 e4
            refine G_tabIn (tgt := 72) (j := 4) hO dX4_count_1 (by decide) rfl (sweq e4 (by decide)) (by decide) ?_
            refine G_aload_n hO dX4_count_72 rfl rfl ?_
            refine gr_X4_24 (c := 3) hO dX4_count_73 (ShC.c0 hC) rfl ?_
            refine gi_X4_69 hO dX4_count_76 (ShC.r3 hC).1 rfl ?_
            exact G_iret hO dX4_count_79 rfl rfl (QI.i h)
          · by_cases e5 : p1 = (5 : Int32)
            · have h := h.2.2.2.2.2.1 e5
              refine G_tabIn (tgt := 80) (j := 5) hO dX4_count_1 (by decide) rfl (sweq e5 (by decide)) (by decide) ?_
              refine G_aload_n hO dX4_count_80 rfl rfl ?_
              refine gr_X4_39 (c := 32) hO dX4_count_81 (ShC.c0 hC) rfl ?_
              refine gi_X4_128 hO dX4_count_84 (ShC.f32 hC).1 rfl ?_
              exact G_iret hO dX4_count_87 rfl rfl (QI.i h)
            · have h := h.2.2.2.2.2.2 ⟨e0, e1, e2, e3, e4, e5⟩
              refine G_tabOut (tgt := 88) hO dX4_count_1 (by decide) (by decide) (fun j hj => ?_) ?_
              · rcases (show j = 0 ∨ j = 1 ∨ j = 2 ∨ j = 3 ∨ j = 4 ∨ j = 5 from by have : j < 6 := hj; omega) with rfl | rfl | rfl | rfl | rfl | rfl
                · exact swne e0 (by decide)
                · exact swne e1 (by decide)
                · exact swne e2 (by decide)
                · exact swne e3 (by decide)
                · exact swne e4 (by decide)
                · exact swne e5 (by decide)
              · refine G_bipush (v := -2) hO dX4_count_88 rfl ?_
                exact G_iret hO dX4_count_90 rfl rfl (QI.i h)
def wp_X4_sheet (Γ : Gx) (d : Nat) (p1 : Int32) (p2 : Int32) (p3 : Int32) (w : Wd) (Q : Int32 → Wd → Prop) : Prop :=
  CI Γ d M_X4_isSheet [.int p1] w (fun r1 w2 => ((r1 = 0 → Q (-2 : Int32) w2) ∧ (¬ r1 = 0 → CI Γ d M_X4_isIn [.int p2, .int (-1 : Int32), .int (2 : Int32)] w2 (fun r4 w5 => ((¬ r4 = 0 → ((¬ p2 = (-1 : Int32) → ((p3 ≤ (40 : Int32) → ((0 ≤ p3 → (vp_in p1 4 ∧ (ShS Γ (rfa sheetCells (p1).toNatClampNeg) ∧ CV Γ d M_X2_clear [.ref (gad Γ (rfa sheetCells (p1).toNatClampNeg)), .int p2, .int p3] w5 (fun w13 => Q (1 : Int32) w13)))) ∧ (¬ 0 ≤ p3 → Q (-14 : Int32) w5))) ∧ (¬ p3 ≤ (40 : Int32) → Q (-2 : Int32) w5))) ∧ (p2 = (-1 : Int32) → (vp_in p1 4 ∧ (ShS Γ (rfa sheetCells (p1).toNatClampNeg) ∧ CV Γ d M_X2_clear [.ref (gad Γ (rfa sheetCells (p1).toNatClampNeg)), .int (-1 : Int32), .int (0 : Int32)] w5 (fun w17 => Q (1 : Int32) w17)))))) ∧ (r4 = 0 → Q (-2 : Int32) w5))))))
set_option maxRecDepth 20000 in
theorem con_X4_sheet {Γ : Gx} {d : Nat} (hG : GC Γ) {p1 : Int32} {p2 : Int32} {p3 : Int32}  {w : Wd} {Q : Int32 → Wd → Prop} (h : wp_X4_sheet Γ d p1 p2 p3 w Q) : CI Γ (d + 1) M_X4_sheet [.ref (gad Γ 0), .int p1, .int p2, .int p3] w Q := by
  have hC := hG.2.1
  refine Con.of RX4 cX4_sheet 4 (some .int) [some (.ref (gad Γ 0)), some (.int p1), some (.int p2), some (.int p3)] rfl rfl (by decide +kernel) hG.1 (catR (catI (catI (catI cat0)))) (Nat.le_of_ble_eq_true rfl) rfl ?_
  intro X hO
  refine G_iload_n hO dX4_sheet_0 rfl rfl ?_
  refine G_callSi hO dX4_sheet_1 h cl_X4_199 rfl (Nat.le_of_ble_eq_true rfl) (fun r1 w2 h => ?_) rfl
  refine G_if_eq (tgt := 16) hO dX4_sheet_4 (by decide) (fun c3 => ?_) (fun c3 => ?_)
  · have h := h.1 c3
    refine G_bipush (v := -2) hO dX4_sheet_16 rfl ?_
    exact G_iret hO dX4_sheet_18 rfl rfl (QI.i h)
  · have h := h.2 c3
    refine G_iload_n hO dX4_sheet_7 rfl rfl ?_
    refine G_iconst (v := -1) hO dX4_sheet_8 rfl ?_
    refine G_iconst (v := 2) hO dX4_sheet_9 rfl ?_
    refine G_callSi hO dX4_sheet_10 h cl_X4_76 rfl (Nat.le_of_ble_eq_true rfl) (fun r4 w5 h => ?_) rfl
    refine G_if_ne (tgt := 19) hO dX4_sheet_13 (by decide) (fun c6 => ?_) (fun c6 => ?_)
    · have h := h.1 c6
      refine G_iload_n hO dX4_sheet_19 rfl rfl ?_
      refine G_iconst (v := -1) hO dX4_sheet_20 rfl ?_
      refine G_icmp_ne (tgt := 37) hO dX4_sheet_21 (by decide) (fun c7 => ?_) (fun c7 => ?_)
      · have h := h.1 c7
        refine G_iload_n hO dX4_sheet_37 rfl rfl ?_
        refine G_bipush (v := 40) hO dX4_sheet_38 rfl ?_
        refine G_icmp_le (tgt := 46) hO dX4_sheet_40 (by decide) (fun c8 => ?_) (fun c8 => ?_)
        · have h := h.1 c8
          refine G_iload_n hO dX4_sheet_46 rfl rfl ?_
          refine G_if_ge (tgt := 53) hO dX4_sheet_47 (by decide) (fun c9 => ?_) (fun c9 => ?_)
          · have h := h.1 c9
            refine G_aload_n hO dX4_sheet_53 rfl rfl ?_
            refine gr_X4_17 (c := 2) hO dX4_sheet_54 (ShC.c0 hC) rfl ?_
            refine G_iload_n hO dX4_sheet_57 rfl rfl ?_
            obtain ⟨c10, h⟩ := h
            obtain ⟨c11, h⟩ := h
            refine G_aaS hO dX4_sheet_58 (ShC.c2 hC) c10 ?_
            refine G_iload_n hO dX4_sheet_59 rfl rfl ?_
            refine G_iload_n hO dX4_sheet_60 rfl rfl ?_
            refine G_callVv hO dX4_sheet_61 h cl_X4_218 c11.1 rfl rfl (Nat.le_of_ble_eq_true rfl) (fun w13 h => ?_) rfl
            refine G_iconst (v := 1) hO dX4_sheet_64 rfl ?_
            exact G_iret hO dX4_sheet_65 rfl rfl (QI.i h)
          · have h := h.2 c9
            refine G_bipush (v := -14) hO dX4_sheet_50 rfl ?_
            exact G_iret hO dX4_sheet_52 rfl rfl (QI.i h)
        · have h := h.2 c8
          refine G_bipush (v := -2) hO dX4_sheet_43 rfl ?_
          exact G_iret hO dX4_sheet_45 rfl rfl (QI.i h)
      · have h := h.2 c7
        refine G_aload_n hO dX4_sheet_24 rfl rfl ?_
        refine gr_X4_17 (c := 2) hO dX4_sheet_25 (ShC.c0 hC) rfl ?_
        refine G_iload_n hO dX4_sheet_28 rfl rfl ?_
        obtain ⟨c14, h⟩ := h
        obtain ⟨c15, h⟩ := h
        refine G_aaS hO dX4_sheet_29 (ShC.c2 hC) c14 ?_
        refine G_iconst (v := -1) hO dX4_sheet_30 rfl ?_
        refine G_iconst (v := 0) hO dX4_sheet_31 rfl ?_
        refine G_callVv hO dX4_sheet_32 h cl_X4_218 c15.1 rfl rfl (Nat.le_of_ble_eq_true rfl) (fun w17 h => ?_) rfl
        refine G_iconst (v := 1) hO dX4_sheet_35 rfl ?_
        exact G_iret hO dX4_sheet_36 rfl rfl (QI.i h)
    · have h := h.2 c6
      refine G_bipush (v := -2) hO dX4_sheet_16 rfl ?_
      exact G_iret hO dX4_sheet_18 rfl rfl (QI.i h)
def wp_X4_cell (Γ : Gx) (d : Nat) (p1 : Int32) (p2 : Int32) (p3 : Int32) (w : Wd) (Q : Int32 → Wd → Prop) : Prop :=
  CI Γ d M_X4_isSheet [.int p1] w (fun r1 w2 => ((¬ r1 = 0 → (vp_in p1 4 ∧ (ShS Γ (rfa sheetCells (p1).toNatClampNeg) ∧ CI Γ d M_X2_isMissing [.ref (gad Γ (rfa sheetCells (p1).toNatClampNeg))] w2 (fun r6 w7 => ((r6 = 0 → CI Γ d M_X2_hasItem [.ref (gad Γ (rfa sheetCells (p1).toNatClampNeg)), .int p2] w7 (fun r9 w10 => ((¬ r9 = 0 → CV Γ d M_X2_put [.ref (gad Γ (rfa sheetCells (p1).toNatClampNeg)), .int p2, .int p3] w10 (fun w13 => Q (1 : Int32) w13)) ∧ (r9 = 0 → Q (-12 : Int32) w10)))) ∧ (¬ r6 = 0 → Q (-11 : Int32) w7)))))) ∧ (r1 = 0 → Q (-2 : Int32) w2)))
set_option maxRecDepth 20000 in
theorem con_X4_cell {Γ : Gx} {d : Nat} (hG : GC Γ) {p1 : Int32} {p2 : Int32} {p3 : Int32}  {w : Wd} {Q : Int32 → Wd → Prop} (h : wp_X4_cell Γ d p1 p2 p3 w Q) : CI Γ (d + 1) M_X4_cell [.ref (gad Γ 0), .int p1, .int p2, .int p3] w Q := by
  have hC := hG.2.1
  refine Con.of RX4 cX4_cell 5 (some .int) [some (.ref (gad Γ 0)), some (.int p1), some (.int p2), some (.int p3), none] rfl rfl (by decide +kernel) hG.1 (catR (catI (catI (catI cat0)))) (Nat.le_of_ble_eq_true rfl) rfl ?_
  intro X hO
  refine G_iload_n hO dX4_cell_0 rfl rfl ?_
  refine G_callSi hO dX4_cell_1 h cl_X4_199 rfl (Nat.le_of_ble_eq_true rfl) (fun r1 w2 h => ?_) rfl
  refine G_if_ne (tgt := 10) hO dX4_cell_4 (by decide) (fun c3 => ?_) (fun c3 => ?_)
  · have h := h.1 c3
    refine G_aload_n hO dX4_cell_10 rfl rfl ?_
    refine gr_X4_17 (c := 2) hO dX4_cell_11 (ShC.c0 hC) rfl ?_
    refine G_iload_n hO dX4_cell_14 rfl rfl ?_
    obtain ⟨c4, h⟩ := h
    obtain ⟨c5, h⟩ := h
    refine G_aaS hO dX4_cell_15 (ShC.c2 hC) c4 ?_
    refine G_astore (lv2 := [some (.ref (gad Γ 0)), some (.int p1), some (.int p2), some (.int p3), some (.ref (gad Γ (rfa sheetCells (p1).toNatClampNeg)))]) hO dX4_cell_16 (by decide) rfl rfl ?_
    refine G_aload hO dX4_cell_18 rfl ?_
    refine G_callVi hO dX4_cell_20 h cl_X4_202 c5.1 rfl rfl (Nat.le_of_ble_eq_true rfl) (fun r6 w7 h => ?_) rfl
    refine G_if_eq (tgt := 29) hO dX4_cell_23 (by decide) (fun c8 => ?_) (fun c8 => ?_)
    · have h := h.1 c8
      refine G_aload hO dX4_cell_29 rfl ?_
      refine G_iload_n hO dX4_cell_31 rfl rfl ?_
      refine G_callVi hO dX4_cell_32 h cl_X4_238 c5.1 rfl rfl (Nat.le_of_ble_eq_true rfl) (fun r9 w10 h => ?_) rfl
      refine G_if_ne (tgt := 41) hO dX4_cell_35 (by decide) (fun c11 => ?_) (fun c11 => ?_)
      · have h := h.1 c11
        refine G_aload hO dX4_cell_41 rfl ?_
        refine G_iload_n hO dX4_cell_43 rfl rfl ?_
        refine G_iload_n hO dX4_cell_44 rfl rfl ?_
        refine G_callVv hO dX4_cell_45 h cl_X4_222 c5.1 rfl rfl (Nat.le_of_ble_eq_true rfl) (fun w13 h => ?_) rfl
        refine G_iconst (v := 1) hO dX4_cell_48 rfl ?_
        exact G_iret hO dX4_cell_49 rfl rfl (QI.i h)
      · have h := h.2 c11
        refine G_bipush (v := -12) hO dX4_cell_38 rfl ?_
        exact G_iret hO dX4_cell_40 rfl rfl (QI.i h)
    · have h := h.2 c8
      refine G_bipush (v := -11) hO dX4_cell_26 rfl ?_
      exact G_iret hO dX4_cell_28 rfl rfl (QI.i h)
  · have h := h.2 c3
    refine G_bipush (v := -2) hO dX4_cell_7 rfl ?_
    exact G_iret hO dX4_cell_9 rfl rfl (QI.i h)
def wp_X4_copy (Γ : Gx) (d : Nat) (p1 : Int32) (p2 : Int32) (p3 : Int32) (p4 : Int32) (p5 : Int32) (w : Wd) (Q : Int32 → Wd → Prop) : Prop :=
  CI Γ d M_X4_isSheet [.int p1] w (fun r1 w2 => ((r1 = 0 → Q (-2 : Int32) w2) ∧ (¬ r1 = 0 → CI Γ d M_X4_isSheet [.int p3] w2 (fun r4 w5 => ((¬ r4 = 0 → (vp_in p1 4 ∧ (ShS Γ (rfa sheetCells (p1).toNatClampNeg) ∧ (vp_in p3 4 ∧ (ShS Γ (rfa sheetCells (p3).toNatClampNeg) ∧ CI Γ d M_X2_isMissing [.ref (gad Γ (rfa sheetCells (p1).toNatClampNeg))] w5 (fun r11 w12 => ((¬ r11 = 0 → Q (-11 : Int32) w12) ∧ (r11 = 0 → CI Γ d M_X2_isMissing [.ref (gad Γ (rfa sheetCells (p3).toNatClampNeg))] w12 (fun r14 w15 => ((r14 = 0 → (((w15 (rfa sheetCells (p1).toNatClampNeg) 1) = (w15 (rfa sheetCells (p3).toNatClampNeg) 1) → CI Γ d M_X2_hasPiece [.ref (gad Γ (rfa sheetCells (p1).toNatClampNeg)), .int p2, .int p5] w15 (fun r18 w19 => ((r18 = 0 → Q (-12 : Int32) w19) ∧ (¬ r18 = 0 → CI Γ d M_X2_hasPiece [.ref (gad Γ (rfa sheetCells (p3).toNatClampNeg)), .int p4, .int p5] w19 (fun r21 w22 => ((¬ r21 = 0 → (¬ p2 < 0 ∧ (¬ p4 < 0 ∧ (¬ p5 < 0 ∧ ((p2).toNatClampNeg + (p5).toNatClampNeg ≤ 40 ∧ ((p4).toNatClampNeg + (p5).toNatClampNeg ≤ 40 ∧ (∀ w29 : Wd, w29 = wcpy w22 ((rfa sheetCells (p1).toNatClampNeg) + 1) ((rfa sheetCells (p3).toNatClampNeg) + 1) (p2).toNatClampNeg (p4).toNatClampNeg (p5).toNatClampNeg → Q p5 w29))))))) ∧ (r21 = 0 → Q (-12 : Int32) w22))))))) ∧ (¬ (w15 (rfa sheetCells (p1).toNatClampNeg) 1) = (w15 (rfa sheetCells (p3).toNatClampNeg) 1) → Q (-13 : Int32) w15))) ∧ (¬ r14 = 0 → Q (-11 : Int32) w15))))))))))) ∧ (r4 = 0 → Q (-2 : Int32) w5))))))
set_option maxRecDepth 20000 in
theorem con_X4_copy {Γ : Gx} {d : Nat} (hG : GC Γ) {p1 : Int32} {p2 : Int32} {p3 : Int32} {p4 : Int32} {p5 : Int32}  {w : Wd} {Q : Int32 → Wd → Prop} (h : wp_X4_copy Γ d p1 p2 p3 p4 p5 w Q) : CI Γ (d + 1) M_X4_copy [.ref (gad Γ 0), .int p1, .int p2, .int p3, .int p4, .int p5] w Q := by
  have hC := hG.2.1
  refine Con.of RX4 cX4_copy 8 (some .int) [some (.ref (gad Γ 0)), some (.int p1), some (.int p2), some (.int p3), some (.int p4), some (.int p5), none, none] rfl rfl (by decide +kernel) hG.1 (catR (catI (catI (catI (catI (catI cat0)))))) (Nat.le_of_ble_eq_true rfl) rfl ?_
  intro X hO
  refine G_iload_n hO dX4_copy_0 rfl rfl ?_
  refine G_callSi hO dX4_copy_1 h cl_X4_199 rfl (Nat.le_of_ble_eq_true rfl) (fun r1 w2 h => ?_) rfl
  refine G_if_eq (tgt := 14) hO dX4_copy_4 (by decide) (fun c3 => ?_) (fun c3 => ?_)
  · have h := h.1 c3
    refine G_bipush (v := -2) hO dX4_copy_14 rfl ?_
    exact G_iret hO dX4_copy_16 rfl rfl (QI.i h)
  · have h := h.2 c3
    refine G_iload_n hO dX4_copy_7 rfl rfl ?_
    refine G_callSi hO dX4_copy_8 h cl_X4_199 rfl (Nat.le_of_ble_eq_true rfl) (fun r4 w5 h => ?_) rfl
    refine G_if_ne (tgt := 17) hO dX4_copy_11 (by decide) (fun c6 => ?_) (fun c6 => ?_)
    · have h := h.1 c6
      refine G_aload_n hO dX4_copy_17 rfl rfl ?_
      refine gr_X4_17 (c := 2) hO dX4_copy_18 (ShC.c0 hC) rfl ?_
      refine G_iload_n hO dX4_copy_21 rfl rfl ?_
      obtain ⟨c7, h⟩ := h
      obtain ⟨c8, h⟩ := h
      refine G_aaS hO dX4_copy_22 (ShC.c2 hC) c7 ?_
      refine G_astore (lv2 := [some (.ref (gad Γ 0)), some (.int p1), some (.int p2), some (.int p3), some (.int p4), some (.int p5), some (.ref (gad Γ (rfa sheetCells (p1).toNatClampNeg))), none]) hO dX4_copy_23 (by decide) rfl rfl ?_
      refine G_aload_n hO dX4_copy_25 rfl rfl ?_
      refine gr_X4_17 (c := 2) hO dX4_copy_26 (ShC.c0 hC) rfl ?_
      refine G_iload_n hO dX4_copy_29 rfl rfl ?_
      obtain ⟨c9, h⟩ := h
      obtain ⟨c10, h⟩ := h
      refine G_aaS hO dX4_copy_30 (ShC.c2 hC) c9 ?_
      refine G_astore (lv2 := [some (.ref (gad Γ 0)), some (.int p1), some (.int p2), some (.int p3), some (.int p4), some (.int p5), some (.ref (gad Γ (rfa sheetCells (p1).toNatClampNeg))), some (.ref (gad Γ (rfa sheetCells (p3).toNatClampNeg)))]) hO dX4_copy_31 (by decide) rfl rfl ?_
      refine G_aload hO dX4_copy_33 rfl ?_
      refine G_callVi hO dX4_copy_35 h cl_X4_202 c8.1 rfl rfl (Nat.le_of_ble_eq_true rfl) (fun r11 w12 h => ?_) rfl
      refine GG.atpc (pc2 := 38) rfl ?_
      refine G_if_ne (tgt := 49) hO dX4_copy_38 (by decide) (fun c13 => ?_) (fun c13 => ?_)
      · have h := h.1 c13
        refine G_bipush (v := -11) hO dX4_copy_49 rfl ?_
        exact G_iret hO dX4_copy_51 rfl rfl (QI.i h)
      · have h := h.2 c13
        refine G_aload hO dX4_copy_41 rfl ?_
        refine G_callVi hO dX4_copy_43 h cl_X4_202 c10.1 rfl rfl (Nat.le_of_ble_eq_true rfl) (fun r14 w15 h => ?_) rfl
        refine G_if_eq (tgt := 52) hO dX4_copy_46 (by decide) (fun c16 => ?_) (fun c16 => ?_)
        · have h := h.1 c16
          refine G_aload hO dX4_copy_52 rfl ?_
          refine gi_X4_241 hO dX4_copy_54 c8.1 rfl ?_
          refine G_aload hO dX4_copy_57 rfl ?_
          refine gi_X4_241 hO dX4_copy_59 c10.1 rfl ?_
          refine G_icmp_eq (tgt := 68) hO dX4_copy_62 (by decide) (fun c17 => ?_) (fun c17 => ?_)
          · have h := h.1 c17
            refine G_aload hO dX4_copy_68 rfl ?_
            refine G_iload_n hO dX4_copy_70 rfl rfl ?_
            refine G_iload hO dX4_copy_71 rfl ?_
            refine G_callVi hO dX4_copy_73 h cl_X4_244 c8.1 rfl rfl (Nat.le_of_ble_eq_true rfl) (fun r18 w19 h => ?_) rfl
            refine G_if_eq (tgt := 91) hO dX4_copy_76 (by decide) (fun c20 => ?_) (fun c20 => ?_)
            · have h := h.1 c20
              refine G_bipush (v := -12) hO dX4_copy_91 rfl ?_
              exact G_iret hO dX4_copy_93 rfl rfl (QI.i h)
            · have h := h.2 c20
              refine G_aload hO dX4_copy_79 rfl ?_
              refine G_iload hO dX4_copy_81 rfl ?_
              refine G_iload hO dX4_copy_83 rfl ?_
              refine G_callVi hO dX4_copy_85 h cl_X4_244 c10.1 rfl rfl (Nat.le_of_ble_eq_true rfl) (fun r21 w22 h => ?_) rfl
              refine G_if_ne (tgt := 94) hO dX4_copy_88 (by decide) (fun c23 => ?_) (fun c23 => ?_)
              · have h := h.1 c23
                refine G_aload hO dX4_copy_94 rfl ?_
                refine gr_X4_247 (c := ((rfa sheetCells (p1).toNatClampNeg) + 1)) hO dX4_copy_96 c8.1 rfl ?_
                refine G_iload_n hO dX4_copy_99 rfl rfl ?_
                refine G_aload hO dX4_copy_100 rfl ?_
                refine gr_X4_247 (c := ((rfa sheetCells (p3).toNatClampNeg) + 1)) hO dX4_copy_102 c10.1 rfl ?_
                refine G_iload hO dX4_copy_105 rfl ?_
                refine G_iload hO dX4_copy_107 rfl ?_
                obtain ⟨c24, c25, c26, c27, c28, h⟩ := h
                refine G_copy hO cp_link cp_nat cp_sta cp_ini c8.2 c10.2 c24 c25 c26 c27 c28 (Nat.le_of_ble_eq_true rfl) dX4_copy_109 ?_
                refine GG.nmw (fun w29 e30 => ?_)
                have h := h w29 e30
                refine G_iload hO dX4_copy_112 rfl ?_
                exact G_iret hO dX4_copy_114 rfl rfl (QI.i h)
              · have h := h.2 c23
                refine G_bipush (v := -12) hO dX4_copy_91 rfl ?_
                exact G_iret hO dX4_copy_93 rfl rfl (QI.i h)
          · have h := h.2 c17
            refine G_bipush (v := -13) hO dX4_copy_65 rfl ?_
            exact G_iret hO dX4_copy_67 rfl rfl (QI.i h)
        · have h := h.2 c16
          refine G_bipush (v := -11) hO dX4_copy_49 rfl ?_
          exact G_iret hO dX4_copy_51 rfl rfl (QI.i h)
    · have h := h.2 c6
      refine G_bipush (v := -2) hO dX4_copy_14 rfl ?_
      exact G_iret hO dX4_copy_16 rfl rfl (QI.i h)
def wp_X4_people (Γ : Gx) (d : Nat) (p1 : Int32) (p2 : Int32) (p3 : Int32) (p4 : Int32) (w : Wd) (Q : Int32 → Wd → Prop) : Prop :=
  ∀ (P_66 : Int32 → Int32 → Wd → Prop),
  (∀ (l6 : Int32) (l7 : Int32) (w : Wd), (ShS Γ (rfa sheetCells (p1).toNatClampNeg) ∧ ((p4 ≤ l7 → Q l6 w) ∧ (¬ p4 ≤ l7 → CI Γ d M_X2_hasPiece [.ref (gad Γ (rfa sheetCells (p1).toNatClampNeg)), .int (p3 + ((2 : Int32) * l7)), .int (2 : Int32)] w (fun r18 w19 => ((¬ r18 = 0 → (vp_in (p3 + ((2 : Int32) * l7)) 40 ∧ (vp_in ((p3 + ((2 : Int32) * l7)) + (1 : Int32)) 40 ∧ CI Γ d M_X4_person [.ref (gad Γ 0), .int (w19 ((rfa sheetCells (p1).toNatClampNeg) + 1) ((p3 + ((2 : Int32) * l7))).toNatClampNeg), .int (w19 ((rfa sheetCells (p1).toNatClampNeg) + 1) (((p3 + ((2 : Int32) * l7)) + (1 : Int32))).toNatClampNeg)] w19 (fun r23 w24 => ((r23 < 0 → P_66 l6 (l7 + 1) w24) ∧ (¬ r23 < 0 → P_66 (l6 + 1) (l7 + 1) w24)))))) ∧ (r18 = 0 → Q (-12 : Int32) w19)))))) → P_66 l6 l7 w) →
  CI Γ d M_X4_isSheet [.int p1] w (fun r1 w2 => ((r1 = 0 → Q (-2 : Int32) w2) ∧ (¬ r1 = 0 → CI Γ d M_X4_isIn [.int p2, .int (0 : Int32), .int (2 : Int32)] w2 (fun r4 w5 => ((r4 = 0 → Q (-2 : Int32) w5) ∧ (¬ r4 = 0 → CI Γ d M_X4_isIn [.int p4, .int (0 : Int32), .int (5 : Int32)] w5 (fun r7 w8 => ((¬ r7 = 0 → (vp_in p1 4 ∧ (ShS Γ (rfa sheetCells (p1).toNatClampNeg) ∧ CI Γ d M_X2_isMissing [.ref (gad Γ (rfa sheetCells (p1).toNatClampNeg))] w8 (fun r12 w13 => ((r12 = 0 → (((w13 (rfa sheetCells (p1).toNatClampNeg) 1) = p2 → P_66 (0 : Int32) (0 : Int32) w13) ∧ (¬ (w13 (rfa sheetCells (p1).toNatClampNeg) 1) = p2 → Q (-13 : Int32) w13))) ∧ (¬ r12 = 0 → Q (-11 : Int32) w13)))))) ∧ (r7 = 0 → Q (-2 : Int32) w8)))))))))
set_option maxRecDepth 20000 in
theorem con_X4_people {Γ : Gx} {d : Nat} (hG : GC Γ) {p1 : Int32} {p2 : Int32} {p3 : Int32} {p4 : Int32}  {w : Wd} {Q : Int32 → Wd → Prop} (h : wp_X4_people Γ d p1 p2 p3 p4 w Q) : CI Γ (d + 1) M_X4_people [.ref (gad Γ 0), .int p1, .int p2, .int p3, .int p4] w Q := by
  have hC := hG.2.1
  refine Con.of RX4 cX4_people 9 (some .int) [some (.ref (gad Γ 0)), some (.int p1), some (.int p2), some (.int p3), some (.int p4), none, none, none, none] rfl rfl (by decide +kernel) hG.1 (catR (catI (catI (catI (catI cat0))))) (Nat.le_of_ble_eq_true rfl) rfl ?_
  intro X hO
  have h := h
    (fun (l6 : Int32) (l7 : Int32) (w : Wd) => GG Γ X (d + 1) 9 (QI Q) 66 [some (.ref (gad Γ 0)), none, none, some (.int p3), some (.int p4), some (.ref (gad Γ (rfa sheetCells (p1).toNatClampNeg))), some (.int l6), some (.int l7), none] [] w)
    (by
        intro l6 l7 w h
        obtain ⟨c16, h⟩ := h
        refine G_iload hO dX4_people_66 rfl ?_
        refine G_iload hO dX4_people_68 rfl ?_
        refine G_icmp_ge (tgt := 129) hO dX4_people_70 (by decide) (fun c17 => ?_) (fun c17 => ?_)
        · have h := h.1 c17
          refine G_iload hO dX4_people_129 rfl ?_
          exact G_iret hO dX4_people_131 rfl rfl (QI.i h)
        · have h := h.2 c17
          refine G_iload_n hO dX4_people_73 rfl rfl ?_
          refine G_iconst (v := 2) hO dX4_people_74 rfl ?_
          refine G_iload hO dX4_people_75 rfl ?_
          refine G_imul hO dX4_people_77 ?_
          refine G_iadd hO dX4_people_78 ?_
          refine G_istore (lv2 := [some (.ref (gad Γ 0)), none, none, some (.int p3), some (.int p4), some (.ref (gad Γ (rfa sheetCells (p1).toNatClampNeg))), some (.int l6), some (.int l7), some (.int (p3 + ((2 : Int32) * l7)))]) hO dX4_people_79 (by decide) rfl rfl ?_
          refine G_aload hO dX4_people_81 rfl ?_
          refine G_iload hO dX4_people_83 rfl ?_
          refine G_iconst (v := 2) hO dX4_people_85 rfl ?_
          refine G_callVi hO dX4_people_86 h cl_X4_244 c16.1 rfl rfl (Nat.le_of_ble_eq_true rfl) (fun r18 w19 h => ?_) rfl
          refine G_if_ne (tgt := 95) hO dX4_people_89 (by decide) (fun c20 => ?_) (fun c20 => ?_)
          · have h := h.1 c20
            refine G_aload_n hO dX4_people_95 rfl rfl ?_
            refine G_aload hO dX4_people_96 rfl ?_
            refine gr_X4_247 (c := ((rfa sheetCells (p1).toNatClampNeg) + 1)) hO dX4_people_98 c16.1 rfl ?_
            refine G_iload hO dX4_people_101 rfl ?_
            obtain ⟨c21, h⟩ := h
            refine G_iaload hO dX4_people_103 c16.2 c21 ?_
            refine G_aload hO dX4_people_104 rfl ?_
            refine gr_X4_247 (c := ((rfa sheetCells (p1).toNatClampNeg) + 1)) hO dX4_people_106 c16.1 rfl ?_
            refine G_iload hO dX4_people_109 rfl ?_
            refine G_iconst (v := 1) hO dX4_people_111 rfl ?_
            refine G_iadd hO dX4_people_112 ?_
            obtain ⟨c22, h⟩ := h
            refine G_iaload hO dX4_people_113 c16.2 c22 ?_
            refine G_callVi hO dX4_people_114 h cl_X4_256 (ShC.c0 hC) rfl rfl (Nat.le_of_ble_eq_true rfl) (fun r23 w24 h => ?_) rfl
            refine GG.atpc (pc2 := 117) rfl ?_
            refine G_if_lt (tgt := 123) hO dX4_people_117 (by decide) (fun c25 => ?_) (fun c25 => ?_)
            · have h := h.1 c25
              refine G_iinc (v := (l7 + 1)) (lv2 := [some (.ref (gad Γ 0)), none, none, some (.int p3), some (.int p4), some (.ref (gad Γ (rfa sheetCells (p1).toNatClampNeg))), some (.int l6), some (.int (l7 + 1)), some (.int (p3 + ((2 : Int32) * l7)))]) hO dX4_people_123 rfl rfl (by decide) rfl rfl ?_
              refine G_goto (tgt := 66) hO dX4_people_126 (by decide) ?_
              exact GG.sub (lv2 := [some (.ref (gad Γ 0)), none, none, some (.int p3), some (.int p4), some (.ref (gad Γ (rfa sheetCells (p1).toNatClampNeg))), some (.int l6), some (.int (l7 + 1)), none]) ⟨rfl, ⟨rfl, ⟨rfl, ⟨rfl, ⟨rfl, ⟨rfl, trivial⟩⟩⟩⟩⟩⟩ h
            · have h := h.2 c25
              refine G_iinc (v := (l6 + 1)) (lv2 := [some (.ref (gad Γ 0)), none, none, some (.int p3), some (.int p4), some (.ref (gad Γ (rfa sheetCells (p1).toNatClampNeg))), some (.int (l6 + 1)), some (.int l7), some (.int (p3 + ((2 : Int32) * l7)))]) hO dX4_people_120 rfl rfl (by decide) rfl rfl ?_
              refine G_iinc (v := (l7 + 1)) (lv2 := [some (.ref (gad Γ 0)), none, none, some (.int p3), some (.int p4), some (.ref (gad Γ (rfa sheetCells (p1).toNatClampNeg))), some (.int (l6 + 1)), some (.int (l7 + 1)), some (.int (p3 + ((2 : Int32) * l7)))]) hO dX4_people_123 rfl rfl (by decide) rfl rfl ?_
              refine G_goto (tgt := 66) hO dX4_people_126 (by decide) ?_
              exact GG.sub (lv2 := [some (.ref (gad Γ 0)), none, none, some (.int p3), some (.int p4), some (.ref (gad Γ (rfa sheetCells (p1).toNatClampNeg))), some (.int (l6 + 1)), some (.int (l7 + 1)), none]) ⟨rfl, ⟨rfl, ⟨rfl, ⟨rfl, ⟨rfl, ⟨rfl, trivial⟩⟩⟩⟩⟩⟩ h
          · have h := h.2 c20
            refine G_bipush (v := -12) hO dX4_people_92 rfl ?_
            exact G_iret hO dX4_people_94 rfl rfl (QI.i h))
  refine G_iload_n hO dX4_people_0 rfl rfl ?_
  refine G_callSi hO dX4_people_1 h cl_X4_199 rfl (Nat.le_of_ble_eq_true rfl) (fun r1 w2 h => ?_) rfl
  refine G_if_eq (tgt := 26) hO dX4_people_4 (by decide) (fun c3 => ?_) (fun c3 => ?_)
  · have h := h.1 c3
    refine G_bipush (v := -2) hO dX4_people_26 rfl ?_
    exact G_iret hO dX4_people_28 rfl rfl (QI.i h)
  · have h := h.2 c3
    refine G_iload_n hO dX4_people_7 rfl rfl ?_
    refine G_iconst (v := 0) hO dX4_people_8 rfl ?_
    refine G_iconst (v := 2) hO dX4_people_9 rfl ?_
    refine G_callSi hO dX4_people_10 h cl_X4_76 rfl (Nat.le_of_ble_eq_true rfl) (fun r4 w5 h => ?_) rfl
    refine G_if_eq (tgt := 26) hO dX4_people_13 (by decide) (fun c6 => ?_) (fun c6 => ?_)
    · have h := h.1 c6
      refine G_bipush (v := -2) hO dX4_people_26 rfl ?_
      exact G_iret hO dX4_people_28 rfl rfl (QI.i h)
    · have h := h.2 c6
      refine G_iload hO dX4_people_16 rfl ?_
      refine G_iconst (v := 0) hO dX4_people_18 rfl ?_
      refine G_iconst (v := 5) hO dX4_people_19 rfl ?_
      refine G_callSi hO dX4_people_20 h cl_X4_76 rfl (Nat.le_of_ble_eq_true rfl) (fun r7 w8 h => ?_) rfl
      refine G_if_ne (tgt := 29) hO dX4_people_23 (by decide) (fun c9 => ?_) (fun c9 => ?_)
      · have h := h.1 c9
        refine G_aload_n hO dX4_people_29 rfl rfl ?_
        refine gr_X4_17 (c := 2) hO dX4_people_30 (ShC.c0 hC) rfl ?_
        refine G_iload_n hO dX4_people_33 rfl rfl ?_
        obtain ⟨c10, h⟩ := h
        obtain ⟨c11, h⟩ := h
        refine G_aaS hO dX4_people_34 (ShC.c2 hC) c10 ?_
        refine G_astore (lv2 := [some (.ref (gad Γ 0)), some (.int p1), some (.int p2), some (.int p3), some (.int p4), some (.ref (gad Γ (rfa sheetCells (p1).toNatClampNeg))), none, none, none]) hO dX4_people_35 (by decide) rfl rfl ?_
        refine G_aload hO dX4_people_37 rfl ?_
        refine G_callVi hO dX4_people_39 h cl_X4_202 c11.1 rfl rfl (Nat.le_of_ble_eq_true rfl) (fun r12 w13 h => ?_) rfl
        refine G_if_eq (tgt := 48) hO dX4_people_42 (by decide) (fun c14 => ?_) (fun c14 => ?_)
        · have h := h.1 c14
          refine G_aload hO dX4_people_48 rfl ?_
          refine gi_X4_241 hO dX4_people_50 c11.1 rfl ?_
          refine G_iload_n hO dX4_people_53 rfl rfl ?_
          refine G_icmp_eq (tgt := 60) hO dX4_people_54 (by decide) (fun c15 => ?_) (fun c15 => ?_)
          · have h := h.1 c15
            refine G_iconst (v := 0) hO dX4_people_60 rfl ?_
            refine G_istore (lv2 := [some (.ref (gad Γ 0)), some (.int p1), some (.int p2), some (.int p3), some (.int p4), some (.ref (gad Γ (rfa sheetCells (p1).toNatClampNeg))), some (.int (0 : Int32)), none, none]) hO dX4_people_61 (by decide) rfl rfl ?_
            refine G_iconst (v := 0) hO dX4_people_63 rfl ?_
            refine G_istore (lv2 := [some (.ref (gad Γ 0)), some (.int p1), some (.int p2), some (.int p3), some (.int p4), some (.ref (gad Γ (rfa sheetCells (p1).toNatClampNeg))), some (.int (0 : Int32)), some (.int (0 : Int32)), none]) hO dX4_people_64 (by decide) rfl rfl ?_
            exact GG.sub (lv2 := [some (.ref (gad Γ 0)), none, none, some (.int p3), some (.int p4), some (.ref (gad Γ (rfa sheetCells (p1).toNatClampNeg))), some (.int (0 : Int32)), some (.int (0 : Int32)), none]) ⟨rfl, ⟨rfl, ⟨rfl, ⟨rfl, ⟨rfl, ⟨rfl, trivial⟩⟩⟩⟩⟩⟩ h
          · have h := h.2 c15
            refine G_bipush (v := -13) hO dX4_people_57 rfl ?_
            exact G_iret hO dX4_people_59 rfl rfl (QI.i h)
        · have h := h.2 c14
          refine G_bipush (v := -11) hO dX4_people_45 rfl ?_
          exact G_iret hO dX4_people_47 rfl rfl (QI.i h)
      · have h := h.2 c9
        refine G_bipush (v := -2) hO dX4_people_26 rfl ?_
        exact G_iret hO dX4_people_28 rfl rfl (QI.i h)
def wp_X4_taken (Γ : Gx) (d : Nat) (p1 : Int32) (p2 : Int32) (w : Wd) (Q : Int32 → Wd → Prop) : Prop :=
  ∀ (P_36 : Int32 → Int32 → Wd → Prop),
  (∀ (l3 : Int32) (l4 : Int32) (w : Wd), (((6 : Int32) ≤ l4 → Q (-13 : Int32) w) ∧ (¬ (6 : Int32) ≤ l4 → CI Γ d M_X4_isIn [.int l3, .int (0 : Int32), .int (5 : Int32)] w (fun r9 w10 => ((r9 = 0 → Q (-13 : Int32) w10) ∧ (¬ r9 = 0 → ((¬ l3 = p2 → (vp_in l3 6 ∧ P_36 (underV (l3).toNatClampNeg) (l4 + 1) w10)) ∧ (l3 = p2 → (vp_in p1 5 ∧ Q (w10 34 (p1).toNatClampNeg) w10)))))))) → P_36 l3 l4 w) →
  CI Γ d M_X4_isIn [.int p2, .int (0 : Int32), .int (5 : Int32)] w (fun r1 w2 => ((¬ r1 = 0 → CI Γ d M_X4_isPerson [.ref (gad Γ 0), .int p1] w2 (fun r4 w5 => ((¬ r4 = 0 → (vp_in p1 5 ∧ P_36 (w5 33 (p1).toNatClampNeg) (0 : Int32) w5)) ∧ (r4 = 0 → Q (-11 : Int32) w5)))) ∧ (r1 = 0 → Q (-2 : Int32) w2)))
set_option maxRecDepth 20000 in
theorem con_X4_taken {Γ : Gx} {d : Nat} (hG : GC Γ) {p1 : Int32} {p2 : Int32}  {w : Wd} {Q : Int32 → Wd → Prop} (h : wp_X4_taken Γ d p1 p2 w Q) : CI Γ (d + 1) M_X4_taken [.ref (gad Γ 0), .int p1, .int p2] w Q := by
  have hC := hG.2.1
  refine Con.of RX4 cX4_taken 5 (some .int) [some (.ref (gad Γ 0)), some (.int p1), some (.int p2), none, none] rfl rfl (by decide +kernel) hG.1 (catR (catI (catI cat0))) (Nat.le_of_ble_eq_true rfl) rfl ?_
  intro X hO
  have h := h
    (fun (l3 : Int32) (l4 : Int32) (w : Wd) => GG Γ X (d + 1) 5 (QI Q) 36 [some (.ref (gad Γ 0)), some (.int p1), some (.int p2), some (.int l3), some (.int l4)] [] w)
    (by
        intro l3 l4 w h
        refine G_iload hO dX4_taken_36 rfl ?_
        refine G_bipush (v := 6) hO dX4_taken_38 rfl ?_
        refine G_icmp_ge (tgt := 79) hO dX4_taken_40 (by decide) (fun c8 => ?_) (fun c8 => ?_)
        · have h := h.1 c8
          refine G_bipush (v := -13) hO dX4_taken_79 rfl ?_
          exact G_iret hO dX4_taken_81 rfl rfl (QI.i h)
        · have h := h.2 c8
          refine G_iload_n hO dX4_taken_43 rfl rfl ?_
          refine G_iconst (v := 0) hO dX4_taken_44 rfl ?_
          refine G_iconst (v := 5) hO dX4_taken_45 rfl ?_
          refine G_callSi hO dX4_taken_46 h cl_X4_76 rfl (Nat.le_of_ble_eq_true rfl) (fun r9 w10 h => ?_) rfl
          refine G_if_eq (tgt := 79) hO dX4_taken_49 (by decide) (fun c11 => ?_) (fun c11 => ?_)
          · have h := h.1 c11
            refine G_bipush (v := -13) hO dX4_taken_79 rfl ?_
            exact G_iret hO dX4_taken_81 rfl rfl (QI.i h)
          · have h := h.2 c11
            refine G_iload_n hO dX4_taken_52 rfl rfl ?_
            refine G_iload_n hO dX4_taken_53 rfl rfl ?_
            refine G_icmp_ne (tgt := 67) hO dX4_taken_54 (by decide) (fun c12 => ?_) (fun c12 => ?_)
            · have h := h.1 c12
              refine G_under hO (hG.x hO) dX4_taken_67 ?_
              refine G_iload_n hO dX4_taken_70 rfl rfl ?_
              obtain ⟨c13, h⟩ := h
              refine G_underLd hO (hG.x hO) dX4_taken_71 c13 ?_
              refine G_istore_n (lv2 := [some (.ref (gad Γ 0)), some (.int p1), some (.int p2), some (.int (underV (l3).toNatClampNeg)), some (.int l4)]) hO dX4_taken_72 rfl (by decide) rfl rfl ?_
              refine G_iinc (v := (l4 + 1)) (lv2 := [some (.ref (gad Γ 0)), some (.int p1), some (.int p2), some (.int (underV (l3).toNatClampNeg)), some (.int (l4 + 1))]) hO dX4_taken_73 rfl rfl (by decide) rfl rfl ?_
              refine G_goto (tgt := 36) hO dX4_taken_76 (by decide) ?_
              exact GG.sub (lv2 := [some (.ref (gad Γ 0)), some (.int p1), some (.int p2), some (.int (underV (l3).toNatClampNeg)), some (.int (l4 + 1))]) ⟨rfl, ⟨rfl, ⟨rfl, ⟨rfl, ⟨rfl, trivial⟩⟩⟩⟩⟩ h
            · have h := h.2 c12
              refine G_aload_n hO dX4_taken_57 rfl rfl ?_
              refine gr_X4_39 (c := 32) hO dX4_taken_58 (ShC.c0 hC) rfl ?_
              refine gr_X4_97 (c := 34) hO dX4_taken_61 (ShC.f32 hC).1 rfl ?_
              refine G_iload_n hO dX4_taken_64 rfl rfl ?_
              obtain ⟨c14, h⟩ := h
              refine G_iaload hO dX4_taken_65 (ShC.f32 hC).2.2.1 c14 ?_
              exact G_iret hO dX4_taken_66 rfl rfl (QI.i h))
  refine G_iload_n hO dX4_taken_0 rfl rfl ?_
  refine G_iconst (v := 0) hO dX4_taken_1 rfl ?_
  refine G_iconst (v := 5) hO dX4_taken_2 rfl ?_
  refine G_callSi hO dX4_taken_3 h cl_X4_76 rfl (Nat.le_of_ble_eq_true rfl) (fun r1 w2 h => ?_) rfl
  refine G_if_ne (tgt := 12) hO dX4_taken_6 (by decide) (fun c3 => ?_) (fun c3 => ?_)
  · have h := h.1 c3
    refine G_aload_n hO dX4_taken_12 rfl rfl ?_
    refine G_iload_n hO dX4_taken_13 rfl rfl ?_
    refine G_callVi hO dX4_taken_14 h cl_X4_124 (ShC.c0 hC) rfl rfl (Nat.le_of_ble_eq_true rfl) (fun r4 w5 h => ?_) rfl
    refine G_if_ne (tgt := 23) hO dX4_taken_17 (by decide) (fun c6 => ?_) (fun c6 => ?_)
    · have h := h.1 c6
      refine G_aload_n hO dX4_taken_23 rfl rfl ?_
      refine gr_X4_39 (c := 32) hO dX4_taken_24 (ShC.c0 hC) rfl ?_
      refine gr_X4_106 (c := 33) hO dX4_taken_27 (ShC.f32 hC).1 rfl ?_
      refine G_iload_n hO dX4_taken_30 rfl rfl ?_
      obtain ⟨c7, h⟩ := h
      refine G_iaload hO dX4_taken_31 (ShC.f32 hC).2.1 c7 ?_
      refine G_istore_n (lv2 := [some (.ref (gad Γ 0)), some (.int p1), some (.int p2), some (.int (w5 33 (p1).toNatClampNeg)), none]) hO dX4_taken_32 rfl (by decide) rfl rfl ?_
      refine G_iconst (v := 0) hO dX4_taken_33 rfl ?_
      refine G_istore (lv2 := [some (.ref (gad Γ 0)), some (.int p1), some (.int p2), some (.int (w5 33 (p1).toNatClampNeg)), some (.int (0 : Int32))]) hO dX4_taken_34 (by decide) rfl rfl ?_
      exact GG.sub (lv2 := [some (.ref (gad Γ 0)), some (.int p1), some (.int p2), some (.int (w5 33 (p1).toNatClampNeg)), some (.int (0 : Int32))]) ⟨rfl, ⟨rfl, ⟨rfl, ⟨rfl, ⟨rfl, trivial⟩⟩⟩⟩⟩ h
    · have h := h.2 c6
      refine G_bipush (v := -11) hO dX4_taken_20 rfl ?_
      exact G_iret hO dX4_taken_22 rfl rfl (QI.i h)
  · have h := h.2 c3
    refine G_bipush (v := -2) hO dX4_taken_9 rfl ?_
    exact G_iret hO dX4_taken_11 rfl rfl (QI.i h)
def wp_X4_isSheet (Γ : Gx) (d : Nat) (p1 : Int32) (w : Wd) (Q : Int32 → Wd → Prop) : Prop :=
  CI Γ d M_X4_isIn [.int p1, .int (0 : Int32), .int (3 : Int32)] w (fun r1 w2 => (isZ r1 ∧ Q r1 w2))
set_option maxRecDepth 20000 in
theorem con_X4_isSheet {Γ : Gx} {d : Nat} (hG : GC Γ) {p1 : Int32}  {w : Wd} {Q : Int32 → Wd → Prop} (h : wp_X4_isSheet Γ d p1 w Q) : CI Γ (d + 1) M_X4_isSheet [.int p1] w Q := by
  have hC := hG.2.1
  refine Con.of RX4 cX4_isSheet 1 (some .boolean) [some (.int p1)] rfl rfl (by decide +kernel) hG.1 (catI cat0) (Nat.le_of_ble_eq_true rfl) rfl ?_
  intro X hO
  refine G_iload_n hO dX4_isSheet_0 rfl rfl ?_
  refine G_iconst (v := 0) hO dX4_isSheet_1 rfl ?_
  refine G_iconst (v := 3) hO dX4_isSheet_2 rfl ?_
  refine G_callSi hO dX4_isSheet_3 h cl_X4_76 rfl (Nat.le_of_ble_eq_true rfl) (fun r1 w2 h => ?_) rfl
  exact G_iret hO dX4_isSheet_6 rfl h.1.nb (QI.i h.2)
