/-! constructors (written by program) -/
def M_X3_init : Mth := (yX3_init, cX3_init, 1, none)
theorem cd_X3_init : CallD M_X3_init 0 := ⟨(AW_mem 72 (by decide +kernel) (by decide +kernel)), (AW_mem 135 (by decide +kernel) (by decide +kernel)), ⟨by decide +kernel, by decide +kernel, by decide +kernel⟩, by decide⟩
theorem ii_X3_init : Cond.instanceMethod M_X3_init.1 ∈ AW := (AW_mem 134 (by decide +kernel) (by decide +kernel))
def pb_X3_init (cA : Nat → ClassId) (h0 : Nat) (u : va_W) : Prop := ∃ a0 a1 : Nat, u = [(h0, .inr (3, [.ref a0, .ref a1, .int 0])), (a0, .inl (cA 0, 160, .inl fun _ => 0)), (a1, .inl (cA 0, 4, .inl fun _ => 0))]
set_option maxRecDepth 20000 in
theorem ni_X3_init {l : Launch} {D : va_G} {cA : Nat → ClassId} {h0 : Nat} : NewC l D cA M_X3_init 1 2 164 (fun _ => True) [.ref h0] [(h0, .inr (3, [.null, .null, .int 0]))] (pb_X3_init cA h0) := by
  refine NewC.of RX3 cX3_init 1 [some (.ref h0)] rfl rfl rfl (by decide +kernel) (catR cat0) (Nat.le_of_ble_eq_true rfl) rfl ?_
  intro X hO hI hr _ _
  refine C_aload_n hO dX3_init_0 rfl rfl ?_
  refine C_objInit hO dX3_init_1 (AW_mem 136 (by decide +kernel) (by decide +kernel)) (Nat.le_of_ble_eq_true rfl) (Nat.le_of_ble_eq_true rfl) (Nat.le_of_ble_eq_true rfl) ?_
  refine C_aload_n hO dX3_init_4 rfl rfl ?_
  refine C_sipush (v := 160) hO dX3_init_5 rfl ?_
  refine C_newI (N := 160) hO dX3_init_8 (by decide) rfl (by decide) (Nat.le_of_ble_eq_true rfl) (Nat.le_of_ble_eq_true rfl) (fun a0 => ?_)
  refine C_putF hO hI (ty := (.array .int)) dX3_init_10 tyX3 0 0 rfl rfl inX3 tyX3_ok nmX3 (by decide) (AW_mem 137 (by decide +kernel) (by decide +kernel)) rfl rfl rfl rfl rfl (by simp) (ws2 := [(h0, .inr (3, [.ref a0, .null, .int 0])), (a0, .inl (cA 0, 160, .inl fun _ => 0))]) rfl ?_
  refine C_aload_n hO dX3_init_13 rfl rfl ?_
  refine C_iconst (v := 4) hO dX3_init_14 rfl ?_
  refine C_newI (N := 4) hO dX3_init_15 (by decide) rfl (by decide) (Nat.le_of_ble_eq_true rfl) (Nat.le_of_ble_eq_true rfl) (fun a1 => ?_)
  refine C_putF hO hI (ty := (.array .int)) dX3_init_17 tyX3 0 1 rfl rfl inX3 tyX3_ok nmX3 (by decide) (AW_mem 138 (by decide +kernel) (by decide +kernel)) rfl rfl rfl rfl rfl (by simp) (ws2 := [(h0, .inr (3, [.ref a0, .ref a1, .int 0])), (a0, .inl (cA 0, 160, .inl fun _ => 0)), (a1, .inl (cA 0, 4, .inl fun _ => 0))]) rfl ?_
  exact C_vret hO hr dX3_init_20 ⟨a0, a1, rfl⟩

def M_X2_init : Mth := (yX2_init, cX2_init, 1, none)
theorem cd_X2_init : CallD M_X2_init 0 := ⟨(AW_mem 73 (by decide +kernel) (by decide +kernel)), (AW_mem 150 (by decide +kernel) (by decide +kernel)), ⟨by decide +kernel, by decide +kernel, by decide +kernel⟩, by decide⟩
theorem ii_X2_init : Cond.instanceMethod M_X2_init.1 ∈ AW := (AW_mem 149 (by decide +kernel) (by decide +kernel))
def pb_X2_init (cA : Nat → ClassId) (h0 : Nat) (u : va_W) : Prop := ∃ a0 : Nat, u = [(h0, .inr (2, [.ref a0, .int -1, .int 0])), (a0, .inl (cA 0, 40, .inl fun _ => 0))]
set_option maxRecDepth 20000 in
theorem ni_X2_init {l : Launch} {D : va_G} {cA : Nat → ClassId} {h0 : Nat} : NewC l D cA M_X2_init 1 1 40 (fun _ => True) [.ref h0] [(h0, .inr (2, [.null, .int 0, .int 0]))] (pb_X2_init cA h0) := by
  refine NewC.of RX2 cX2_init 1 [some (.ref h0)] rfl rfl rfl (by decide +kernel) (catR cat0) (Nat.le_of_ble_eq_true rfl) rfl ?_
  intro X hO hI hr _ _
  refine C_aload_n hO dX2_init_0 rfl rfl ?_
  refine C_objInit hO dX2_init_1 (AW_mem 151 (by decide +kernel) (by decide +kernel)) (Nat.le_of_ble_eq_true rfl) (Nat.le_of_ble_eq_true rfl) (Nat.le_of_ble_eq_true rfl) ?_
  refine C_aload_n hO dX2_init_4 rfl rfl ?_
  refine C_bipush (v := 40) hO dX2_init_5 rfl ?_
  refine C_newI (N := 40) hO dX2_init_7 (by decide) rfl (by decide) (Nat.le_of_ble_eq_true rfl) (Nat.le_of_ble_eq_true rfl) (fun a0 => ?_)
  refine C_putF hO hI (ty := (.array .int)) dX2_init_9 tyX2 0 0 rfl rfl inX2 tyX2_ok nmX2 (by decide) (AW_mem 152 (by decide +kernel) (by decide +kernel)) rfl rfl rfl rfl rfl (by simp) (ws2 := [(h0, .inr (2, [.ref a0, .int 0, .int 0])), (a0, .inl (cA 0, 40, .inl fun _ => 0))]) rfl ?_
  refine C_aload_n hO dX2_init_12 rfl rfl ?_
  refine C_iconst (v := -1) hO dX2_init_13 rfl ?_
  refine C_put hO (ty := .int) dX2_init_14 tyX2 0 1 rfl rfl inX2 tyX2_ok nmX2 (by decide) (AW_mem 155 (by decide +kernel) (by decide +kernel)) rfl rfl rfl rfl (by simp) (ws2 := [(h0, .inr (2, [.ref a0, .int -1, .int 0])), (a0, .inl (cA 0, 40, .inl fun _ => 0))]) rfl ?_
  exact C_vret hO hr dX2_init_17 ⟨a0, rfl⟩

def M_X1_init : Mth := (yX1_init, cX1_init, 1, none)
theorem cd_X1_init : CallD M_X1_init 0 := ⟨(AW_mem 71 (by decide +kernel) (by decide +kernel)), (AW_mem 100 (by decide +kernel) (by decide +kernel)), ⟨by decide +kernel, by decide +kernel, by decide +kernel⟩, by decide⟩
theorem ii_X1_init : Cond.instanceMethod M_X1_init.1 ∈ AW := (AW_mem 99 (by decide +kernel) (by decide +kernel))
def pb_X1_init (cA : Nat → ClassId) (h0 : Nat) (u : va_W) : Prop := ∃ a0 : Nat, u = [(h0, .inr (1, [.int 0, .ref a0, .null, .int 0, .int 0, .int 0, .int 0, .int 0, .int 0])), (a0, .inl (cA 0, 160, .inl fun _ => 0))]
set_option maxRecDepth 20000 in
theorem ni_X1_init {l : Launch} {D : va_G} {cA : Nat → ClassId} {h0 : Nat} : NewC l D cA M_X1_init 1 1 160 (fun _ => True) [.ref h0] [(h0, .inr (1, [.int 0, .null, .null, .int 0, .int 0, .int 0, .int 0, .int 0, .int 0]))] (pb_X1_init cA h0) := by
  refine NewC.of RX1 cX1_init 1 [some (.ref h0)] rfl rfl rfl (by decide +kernel) (catR cat0) (Nat.le_of_ble_eq_true rfl) rfl ?_
  intro X hO hI hr _ _
  refine C_aload_n hO dX1_init_0 rfl rfl ?_
  refine C_objInit hO dX1_init_1 (AW_mem 101 (by decide +kernel) (by decide +kernel)) (Nat.le_of_ble_eq_true rfl) (Nat.le_of_ble_eq_true rfl) (Nat.le_of_ble_eq_true rfl) ?_
  refine C_aload_n hO dX1_init_4 rfl rfl ?_
  refine C_sipush (v := 160) hO dX1_init_5 rfl ?_
  refine C_newI (N := 160) hO dX1_init_8 (by decide) rfl (by decide) (Nat.le_of_ble_eq_true rfl) (Nat.le_of_ble_eq_true rfl) (fun a0 => ?_)
  refine C_putF hO hI (ty := (.array .int)) dX1_init_10 tyX1 0 1 rfl rfl inX1 tyX1_ok nmX1 (by decide) (AW_mem 104 (by decide +kernel) (by decide +kernel)) rfl rfl rfl rfl rfl (by simp) (ws2 := [(h0, .inr (1, [.int 0, .ref a0, .null, .int 0, .int 0, .int 0, .int 0, .int 0, .int 0])), (a0, .inl (cA 0, 160, .inl fun _ => 0))]) rfl ?_
  exact C_vret hO hr dX1_init_13 ⟨a0, rfl⟩

def M_X0_init : Mth := (yX0_init, cX0_init, 2, none)
theorem cd_X0_init : CallD M_X0_init 1 := ⟨(AW_mem 74 (by decide +kernel) (by decide +kernel)), (AW_mem 171 (by decide +kernel) (by decide +kernel)), ⟨by decide +kernel, by decide +kernel, by decide +kernel⟩, by decide⟩
theorem ii_X0_init : Cond.instanceMethod M_X0_init.1 ∈ AW := (AW_mem 170 (by decide +kernel) (by decide +kernel))
def pb_X0_init (cA : Nat → ClassId) (h0 h1 : Nat) (u : va_W) : Prop := ∃ a0 a1 a2 a3 a4 a5 : Nat, u = [(h0, .inr (0, [.ref a0, .ref a1, .ref a2, .ref a3, .int 0, .int 255, .int 0, .int 0, .int -1, .ref h1, .ref a4, .ref a5])), (a0, .inl (cA 0, 5, .inl fun _ => 0)), (a1, .inl (cA 0, 5, .inl fun _ => 0)), (a2, .inl (cA 0, 5, .inl fun _ => 0)), (a3, .inl (cA 0, 5, .inl fun _ => 0)), (a4, .inl (cA 0, 6, .inl fun _ => 0)), (a5, .inl (cA 0, 160, .inl fun _ => 0))]
set_option maxRecDepth 20000 in
theorem ni_X0_init {l : Launch} {D : va_G} {cA : Nat → ClassId} {h0 : Nat} {h1 : Nat} : NewC l D cA M_X0_init 1 6 186 (fun _ => True) [.ref h0, .ref h1] [(h0, .inr (0, [.null, .null, .null, .null, .int 0, .int 0, .int 0, .int 0, .int 0, .null, .null, .null]))] (pb_X0_init cA h0 h1) := by
  refine NewC.of RX0 cX0_init 2 [some (.ref h0), some (.ref h1)] rfl rfl rfl (by decide +kernel) (catR (catR cat0)) (Nat.le_of_ble_eq_true rfl) rfl ?_
  intro X hO hI hr _ _
  refine C_aload_n hO dX0_init_0 rfl rfl ?_
  refine C_objInit hO dX0_init_1 (AW_mem 172 (by decide +kernel) (by decide +kernel)) (Nat.le_of_ble_eq_true rfl) (Nat.le_of_ble_eq_true rfl) (Nat.le_of_ble_eq_true rfl) ?_
  refine C_aload_n hO dX0_init_4 rfl rfl ?_
  refine C_iconst (v := 5) hO dX0_init_5 rfl ?_
  refine C_newI (N := 5) hO dX0_init_6 (by decide) rfl (by decide) (Nat.le_of_ble_eq_true rfl) (Nat.le_of_ble_eq_true rfl) (fun a0 => ?_)
  refine C_putF hO hI (ty := (.array .int)) dX0_init_8 tyX0 0 0 rfl rfl inX0 tyX0_ok nmX0 (by decide) (AW_mem 173 (by decide +kernel) (by decide +kernel)) rfl rfl rfl rfl rfl (by simp) (ws2 := [(h0, .inr (0, [.ref a0, .null, .null, .null, .int 0, .int 0, .int 0, .int 0, .int 0, .null, .null, .null])), (a0, .inl (cA 0, 5, .inl fun _ => 0))]) rfl ?_
  refine C_aload_n hO dX0_init_11 rfl rfl ?_
  refine C_iconst (v := 5) hO dX0_init_12 rfl ?_
  refine C_newI (N := 5) hO dX0_init_13 (by decide) rfl (by decide) (Nat.le_of_ble_eq_true rfl) (Nat.le_of_ble_eq_true rfl) (fun a1 => ?_)
  refine C_putF hO hI (ty := (.array .int)) dX0_init_15 tyX0 0 1 rfl rfl inX0 tyX0_ok nmX0 (by decide) (AW_mem 175 (by decide +kernel) (by decide +kernel)) rfl rfl rfl rfl rfl (by simp) (ws2 := [(h0, .inr (0, [.ref a0, .ref a1, .null, .null, .int 0, .int 0, .int 0, .int 0, .int 0, .null, .null, .null])), (a0, .inl (cA 0, 5, .inl fun _ => 0)), (a1, .inl (cA 0, 5, .inl fun _ => 0))]) rfl ?_
  refine C_aload_n hO dX0_init_18 rfl rfl ?_
  refine C_iconst (v := 5) hO dX0_init_19 rfl ?_
  refine C_newI (N := 5) hO dX0_init_20 (by decide) rfl (by decide) (Nat.le_of_ble_eq_true rfl) (Nat.le_of_ble_eq_true rfl) (fun a2 => ?_)
  refine C_putF hO hI (ty := (.array .int)) dX0_init_22 tyX0 0 2 rfl rfl inX0 tyX0_ok nmX0 (by decide) (AW_mem 177 (by decide +kernel) (by decide +kernel)) rfl rfl rfl rfl rfl (by simp) (ws2 := [(h0, .inr (0, [.ref a0, .ref a1, .ref a2, .null, .int 0, .int 0, .int 0, .int 0, .int 0, .null, .null, .null])), (a0, .inl (cA 0, 5, .inl fun _ => 0)), (a1, .inl (cA 0, 5, .inl fun _ => 0)), (a2, .inl (cA 0, 5, .inl fun _ => 0))]) rfl ?_
  refine C_aload_n hO dX0_init_25 rfl rfl ?_
  refine C_iconst (v := 5) hO dX0_init_26 rfl ?_
  refine C_newI (N := 5) hO dX0_init_27 (by decide) rfl (by decide) (Nat.le_of_ble_eq_true rfl) (Nat.le_of_ble_eq_true rfl) (fun a3 => ?_)
  refine C_putF hO hI (ty := (.array .int)) dX0_init_29 tyX0 0 3 rfl rfl inX0 tyX0_ok nmX0 (by decide) (AW_mem 179 (by decide +kernel) (by decide +kernel)) rfl rfl rfl rfl rfl (by simp) (ws2 := [(h0, .inr (0, [.ref a0, .ref a1, .ref a2, .ref a3, .int 0, .int 0, .int 0, .int 0, .int 0, .null, .null, .null])), (a0, .inl (cA 0, 5, .inl fun _ => 0)), (a1, .inl (cA 0, 5, .inl fun _ => 0)), (a2, .inl (cA 0, 5, .inl fun _ => 0)), (a3, .inl (cA 0, 5, .inl fun _ => 0))]) rfl ?_
  refine C_aload_n hO dX0_init_32 rfl rfl ?_
  refine C_sipush (v := 255) hO dX0_init_33 rfl ?_
  refine C_put hO (ty := .int) dX0_init_36 tyX0 0 5 rfl rfl inX0 tyX0_ok nmX0 (by decide) (AW_mem 183 (by decide +kernel) (by decide +kernel)) rfl rfl rfl rfl (by simp) (ws2 := [(h0, .inr (0, [.ref a0, .ref a1, .ref a2, .ref a3, .int 0, .int 255, .int 0, .int 0, .int 0, .null, .null, .null])), (a0, .inl (cA 0, 5, .inl fun _ => 0)), (a1, .inl (cA 0, 5, .inl fun _ => 0)), (a2, .inl (cA 0, 5, .inl fun _ => 0)), (a3, .inl (cA 0, 5, .inl fun _ => 0))]) rfl ?_
  refine C_aload_n hO dX0_init_39 rfl rfl ?_
  refine C_iconst (v := -1) hO dX0_init_40 rfl ?_
  refine C_put hO (ty := .int) dX0_init_41 tyX0 0 8 rfl rfl inX0 tyX0_ok nmX0 (by decide) (AW_mem 189 (by decide +kernel) (by decide +kernel)) rfl rfl rfl rfl (by simp) (ws2 := [(h0, .inr (0, [.ref a0, .ref a1, .ref a2, .ref a3, .int 0, .int 255, .int 0, .int 0, .int -1, .null, .null, .null])), (a0, .inl (cA 0, 5, .inl fun _ => 0)), (a1, .inl (cA 0, 5, .inl fun _ => 0)), (a2, .inl (cA 0, 5, .inl fun _ => 0)), (a3, .inl (cA 0, 5, .inl fun _ => 0))]) rfl ?_
  refine C_aload_n hO dX0_init_44 rfl rfl ?_
  refine C_bipush (v := 6) hO dX0_init_45 rfl ?_
  refine C_newI (N := 6) hO dX0_init_47 (by decide) rfl (by decide) (Nat.le_of_ble_eq_true rfl) (Nat.le_of_ble_eq_true rfl) (fun a4 => ?_)
  refine C_putF hO hI (ty := (.array .int)) dX0_init_49 tyX0 0 10 rfl rfl inX0 tyX0_ok nmX0 (by decide) (AW_mem 192 (by decide +kernel) (by decide +kernel)) rfl rfl rfl rfl rfl (by simp) (ws2 := [(h0, .inr (0, [.ref a0, .ref a1, .ref a2, .ref a3, .int 0, .int 255, .int 0, .int 0, .int -1, .null, .ref a4, .null])), (a0, .inl (cA 0, 5, .inl fun _ => 0)), (a1, .inl (cA 0, 5, .inl fun _ => 0)), (a2, .inl (cA 0, 5, .inl fun _ => 0)), (a3, .inl (cA 0, 5, .inl fun _ => 0)), (a4, .inl (cA 0, 6, .inl fun _ => 0))]) rfl ?_
  refine C_aload_n hO dX0_init_52 rfl rfl ?_
  refine C_sipush (v := 160) hO dX0_init_53 rfl ?_
  refine C_newI (N := 160) hO dX0_init_56 (by decide) rfl (by decide) (Nat.le_of_ble_eq_true rfl) (Nat.le_of_ble_eq_true rfl) (fun a5 => ?_)
  refine C_putF hO hI (ty := (.array .int)) dX0_init_58 tyX0 0 11 rfl rfl inX0 tyX0_ok nmX0 (by decide) (AW_mem 193 (by decide +kernel) (by decide +kernel)) rfl rfl rfl rfl rfl (by simp) (ws2 := [(h0, .inr (0, [.ref a0, .ref a1, .ref a2, .ref a3, .int 0, .int 255, .int 0, .int 0, .int -1, .null, .ref a4, .ref a5])), (a0, .inl (cA 0, 5, .inl fun _ => 0)), (a1, .inl (cA 0, 5, .inl fun _ => 0)), (a2, .inl (cA 0, 5, .inl fun _ => 0)), (a3, .inl (cA 0, 5, .inl fun _ => 0)), (a4, .inl (cA 0, 6, .inl fun _ => 0)), (a5, .inl (cA 0, 160, .inl fun _ => 0))]) rfl ?_
  refine C_aload_n hO dX0_init_61 rfl rfl ?_
  refine C_aload_n hO dX0_init_62 rfl rfl ?_
  refine C_putF hO hI (ty := (.array (.object "SandwichesSpeak$Text"))) dX0_init_63 tyX0 0 9 rfl rfl inX0 tyX0_ok nmX0 (by decide) (AW_mem 191 (by decide +kernel) (by decide +kernel)) rfl rfl rfl rfl rfl (by simp) (ws2 := [(h0, .inr (0, [.ref a0, .ref a1, .ref a2, .ref a3, .int 0, .int 255, .int 0, .int 0, .int -1, .ref h1, .ref a4, .ref a5])), (a0, .inl (cA 0, 5, .inl fun _ => 0)), (a1, .inl (cA 0, 5, .inl fun _ => 0)), (a2, .inl (cA 0, 5, .inl fun _ => 0)), (a3, .inl (cA 0, 5, .inl fun _ => 0)), (a4, .inl (cA 0, 6, .inl fun _ => 0)), (a5, .inl (cA 0, 160, .inl fun _ => 0))]) rfl ?_
  exact C_vret hO hr dX0_init_66 ⟨a0, a1, a2, a3, a4, a5, rfl⟩
