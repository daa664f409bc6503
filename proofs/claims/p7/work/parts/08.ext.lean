/-! what the class world knows of the rest: its texts, its statics, nest links; rows for them -/
def strLens : List Nat := [51, 61, 8]
def strByts : List (List Int32) := [[99, 117, 116, 115, 32, 108, 97, 121, 101, 114, 32, 60, 32, 51, 32, 43, 32, 109, 111, 111, 100, 32, 59, 32, 102, 101, 101, 108, 115, 32, 108, 97, 121, 101, 114, 32, 45, 32, 51, 32, 59, 32, 115, 101, 110, 100, 115, 32, 49, 32, 59], [108, 97, 121, 101, 114, 32, 109, 111, 111, 100, 32, 110, 117, 109, 98, 101, 114, 32, 116, 104, 101, 105, 114, 115, 32, 102, 114, 111, 109, 32, 116, 111, 32, 99, 117, 116, 115, 32, 102, 101, 101, 108, 115, 32, 115, 101, 110, 100, 115, 32, 111, 114, 32, 97, 110, 100, 32, 110, 111, 116, 32], [40, 41, 59, 43, 45, 42, 60, 61]]
def strN (kx : Nat) : Nat := strLens.getD kx 0
def strB (kx j : Nat) : Int32 := (strByts.getD kx []).getD j 0
def underV (j : Nat) : Int32 := ([-1, 0, 0, 1, 2, 0] : List Int32).getD j 0
def isZ (v : Int32) : Prop := v = 0 ∨ v = 1
theorem isZ.nb {v : Int32} (h : isZ v) : narrow .boolean (.int v) = .int v := by rcases h with rfl | rfl <;> rfl
theorem isZ.and {v : Int32} (h : isZ v) : v &&& 1 = v := by rcases h with rfl | rfl <;> rfl
theorem QI.i {K : Int32 → Wd → Prop} {v : Int32} {w : Wd} (h : K v w) : QI K (some (.int v)) w := ⟨v, rfl, h⟩
theorem QL.i {K : Int64 → Wd → Prop} {v : Int64} {w : Wd} (h : K v w) : QL K (some (.long v)) w := ⟨v, rfl, h⟩
theorem QV.i {K : Wd → Prop} {w : Wd} (h : K w) : QV K none w := ⟨rfl, h⟩
theorem cat0 : ∀ a ∈ ([] : List Value), a.category = 1 := fun _ h => absurd h List.not_mem_nil
theorem catI {x : Int32} {as : List Value} (h : ∀ a ∈ as, a.category = 1) : ∀ a ∈ (Value.int x :: as), a.category = 1 := List.forall_mem_cons.mpr ⟨rfl, h⟩
theorem catR {x : Nat} {as : List Value} (h : ∀ a ∈ as, a.category = 1) : ∀ a ∈ (Value.ref x :: as), a.category = 1 := List.forall_mem_cons.mpr ⟨rfl, h⟩
theorem catV {x : Value} {as : List Value} (hx : x.category = 1) (h : ∀ a ∈ as, a.category = 1) : ∀ a ∈ (x :: as), a.category = 1 := List.forall_mem_cons.mpr ⟨hx, h⟩
def EXF (ad : Nat → Nat) (A : Nat → Prop) (U : State) : Prop :=
  va_Nw (.methodLinkNest RX1 87 M_X4_isIn.1 "SandwichesSpeak") U ∧ va_Nw (.methodLinkNest RX0 80 M_X4_bounded.1 "SandwichesSpeak") U ∧
  vk_R RX4 49 "cuts layer < 3 + mood ; feels layer - 3 ; sends 1 ;" (ad 100) U ∧ vk_R RX1 109 "layer mood number theirs from to cuts feels sends or and not " (ad 101) U ∧ vk_R RX1 97 "();+-*<=" (ad 102) U ∧
  vk_S 3 strLens strByts (fun i => ad (100 + i)) (fun i => ad (110 + i)) A U U.heap ∧
  va_Z "java/lang/String" "COMPACT_STRINGS" "Z" (.int 1) A U U.heap ∧ va_Zq "jdk/internal/util/Preconditions" "SIOOBE_FORMATTER" "Ljava/util/function/BiFunction;" A U U.heap ∧
  va_Z "SandwichesSpeak" "UNDER" "[I" (.ref (ad 120)) A U U.heap ∧ va_T .int (ad 120) 6 (fun j => .int (underV j)) A U U.heap
theorem EXF.same {ad : Nat → Nat} {A : Nat → Prop} {s U : State} (h : EXF ad A s) (hh : U.heap = s.heap) (hv : U.vm = s.vm) : EXF ad A U := by
  obtain ⟨h1, h2, h3, h4, h5, h6, h7, h8, h9, h10⟩ := h
  have ha : s.vm.Alike U.vm := by rw [hv]; exact Vm.Alike.refl _
  refine ⟨va_Nw.same rfl hv.symm h1, va_Nw.same rfl hv.symm h2, vk_R.same hv h3, vk_R.same hv h4, vk_R.same hv h5, ?_, ?_, ?_, ?_, ?_⟩
  all_goals rw [hh]
  · exact h6.moved ha
  · exact h7.moved ha
  · exact h8.moved ha
  · exact h9.moved ha
  · exact h10.moved ha
theorem EXF.warm {ad : Nat → Nat} {A : Nat → Prop} {s U : State} (h : EXF ad A s) (hW : s.WarmedH U.vm) (hz : s.heap.size ≤ U.heap.size) (hq : ∀ q : Nat, q < s.heap.size → ¬ A q → U.heap[q]? = s.heap[q]?) : EXF ad A U := by
  obtain ⟨h1, h2, h3, h4, h5, h6, h7, h8, h9, h10⟩ := h
  have ha := hW.alike
  exact ⟨va_Nw.warmM hW h1, va_Nw.warmM hW h2, h3.warm hW, h4.warm hW, h5.warm hW, (h6.kept hq).moved ha, (h7.kept hq).moved ha, (h8.kept hq).moved ha, (h9.kept hq).moved ha, (h10.kept hq).moved ha⟩
/-- the class world, and the model's -/
def GC (Γ : Gx) : Prop := GOK Γ ∧ ShC Γ ∧ ∀ U, gE Γ U → EXF (gad Γ) (gA Γ) U
def GM (Γ : Gx) : Prop := GOK Γ ∧ ShM Γ
theorem GC.x {Γ : Gx} (h : GC Γ) {X : Mx} {own : String} {cc : ByteArray} {nL : Nat} {ret : Option FieldType} (hO : OKM Γ X own cc nL ret) : EXF (gad Γ) (gA Γ) (xs X) := h.2.2 _ hO.2.2.2.2.2.2.2.2.2
section XROWS
variable {Γ : Gx} {X : Mx} {own : String} {cc : ByteArray} {nL d pc : Nat} {ret : Option FieldType} {Q : Option Value → Wd → Prop} {lv : List (Option Value)} {st rest : List Value} {w : Wd}
theorem G_ldcS (hO : OKM Γ X own cc nL ret) {ix kx : Nat} {tx : String} (hd : decode cc pc = .ok (.ldc ix, 2)) (hX : vk_R own ix tx (gad Γ kx) (xs X)) (k : GG Γ X d nL Q (pc + 2) lv (.ref (gad Γ kx) :: st) w) : GG Γ X d nL Q pc lv st w := fun ls H locs hl hP hS => va_ldcS hO.1 hO.2.1 hO.2.2.2.1 hX hd (k ls H locs hl hP hS)
theorem G_aaT (hO : OKM Γ X own cc nL ret) {i : Nat} {j : Int32} (hd : decode cc pc = .ok (.aaload, 1)) (hs : (gS Γ)[i]? = some (.inl (3, 6, textCells))) (hin : vp_in j 6) (k : GG Γ X d nL Q (pc + 1) lv (.ref (gad Γ (rfa textCells j.toNatClampNeg)) :: st) w) : GG Γ X d nL Q pc lv (.int j :: .ref (gad Γ i) :: st) w := G_aaload hO hd hs (C := "SandwichesSpeak$Text") rfl hin k
theorem G_aaS (hO : OKM Γ X own cc nL ret) {i : Nat} {j : Int32} (hd : decode cc pc = .ok (.aaload, 1)) (hs : (gS Γ)[i]? = some (.inl (2, 4, sheetCells))) (hin : vp_in j 4) (k : GG Γ X d nL Q (pc + 1) lv (.ref (gad Γ (rfa sheetCells j.toNatClampNeg)) :: st) w) : GG Γ X d nL Q pc lv (.int j :: .ref (gad Γ i) :: st) w := G_aaload hO hd hs (C := "SandwichesSpeak$Sheet") rfl hin k
theorem G_under (hO : OKM Γ X RX4 cc nL ret) (hX : EXF (gad Γ) (gA Γ) (xs X)) (hd : decode cc pc = .ok (.getstatic 259, 3)) (k : GG Γ X d nL Q (pc + 3) lv (.ref (gad Γ 120) :: st) w) : GG Γ X d nL Q pc lv st w := fun ls H locs hl hP hS => va_gets hO.1 hO.2.1 hX.2.2.2.2.2.2.2.2.1 hS hO.2.2.2.1 (hO.2.2.2.2.1 _ (show Cond.fieldLink RX4 259 "SandwichesSpeak" "UNDER" "[I" ∈ AW from AW_mem 736 (by decide +kernel) (by decide +kernel))) (fun _ h => h) hd (k ls H locs hl hP hS)
theorem G_underLd (hO : OKM Γ X own cc nL ret) (hX : EXF (gad Γ) (gA Γ) (xs X)) {j : Int32} (hd : decode cc pc = .ok (.iaload, 1)) (hin : vp_in j 6) (k : GG Γ X d nL Q (pc + 1) lv (.int (underV j.toNatClampNeg) :: st) w) : GG Γ X d nL Q pc lv (.int j :: .ref (gad Γ 120) :: st) w := fun ls H locs hl hP hS => va_ti hO.1 hO.2.1 hX.2.2.2.2.2.2.2.2.2 hS hin rfl hd (k ls H locs hl hP hS)
theorem G_compact (hO : OKM Γ X RJ0 cc nL ret) (hX : EXF (gad Γ) (gA Γ) (xs X)) (hd : decode cc pc = .ok (.getstatic 38, 3)) (k : GG Γ X d nL Q (pc + 3) lv (.int 1 :: st) w) : GG Γ X d nL Q pc lv st w := fun ls H locs hl hP hS => va_gets hO.1 hO.2.1 hX.2.2.2.2.2.2.1 hS hO.2.2.2.1 (hO.2.2.2.2.1 _ (show Cond.fieldLink RJ0 38 "java/lang/String" "COMPACT_STRINGS" "Z" ∈ AW from AW_mem 228 (by decide +kernel) (by decide +kernel))) (fun _ h => h) hd (k ls H locs hl hP hS)
theorem G_sioobe (hO : OKM Γ X RJ0 cc nL ret) (hX : EXF (gad Γ) (gA Γ) (xs X)) (hd : decode cc pc = .ok (.getstatic 1053, 3)) (k : ∀ v : Value, v.category = 1 → GG Γ X d nL Q (pc + 3) lv (v :: st) w) : GG Γ X d nL Q pc lv st w := fun ls H locs hl hP hS => by
  rcases hX.2.2.2.2.2.2.2.1 with h | ⟨t, h⟩
  · exact va_gets hO.1 hO.2.1 h hS hO.2.2.2.1 (hO.2.2.2.2.1 _ (show Cond.fieldLink RJ0 1053 "jdk/internal/util/Preconditions" "SIOOBE_FORMATTER" "Ljava/util/function/BiFunction;" ∈ AW from AW_mem 244 (by decide +kernel) (by decide +kernel))) (fun _ h => h) hd (k _ rfl ls H locs hl hP hS)
  · exact va_gets hO.1 hO.2.1 h hS hO.2.2.2.1 (hO.2.2.2.2.1 _ (show Cond.fieldLink RJ0 1053 "jdk/internal/util/Preconditions" "SIOOBE_FORMATTER" "Ljava/util/function/BiFunction;" ∈ AW from AW_mem 244 (by decide +kernel) (by decide +kernel))) (fun _ h => h) hd (k _ rfl ls H locs hl hP hS)
theorem G_strVal (hO : OKM Γ X RJ0 cc nL ret) (hX : EXF (gad Γ) (gA Γ) (xs X)) {kx : Nat} (hd : decode cc pc = .ok (.getfield 9, 3)) (hk : kx < 3) (k : GG Γ X d nL Q (pc + 3) lv (.ref (gad Γ (110 + kx)) :: st) w) : GG Γ X d nL Q pc lv (.ref (gad Γ (100 + kx)) :: st) w := fun ls H locs hl hP hS => vk_getf hO.1 hO.2.1 (hX.2.2.2.2.2.1.1 kx hk).2.2.1 hS hO.2.2.2.1 (hO.2.2.2.2.1 _ (show Cond.fieldLink RJ0 9 "java/lang/String" "value" "[B" ∈ AW from AW_mem 1186 (by decide +kernel) (by decide +kernel))) (fun _ h => h) hd (k ls H locs hl hP hS)
theorem G_strCod (hO : OKM Γ X RJ0 cc nL ret) (hX : EXF (gad Γ) (gA Γ) (xs X)) {kx : Nat} (hd : decode cc pc = .ok (.getfield 15, 3)) (hk : kx < 3) (k : GG Γ X d nL Q (pc + 3) lv (.int 0 :: st) w) : GG Γ X d nL Q pc lv (.ref (gad Γ (100 + kx)) :: st) w := fun ls H locs hl hP hS => vk_getf hO.1 hO.2.1 (hX.2.2.2.2.2.1.1 kx hk).2.1 hS hO.2.2.2.1 (hO.2.2.2.2.1 _ (show Cond.fieldLink RJ0 15 "java/lang/String" "coder" "B" ∈ AW from AW_mem 1187 (by decide +kernel) (by decide +kernel))) (fun _ h => h) hd (k ls H locs hl hP hS)
theorem G_strLd (hO : OKM Γ X own cc nL ret) (hX : EXF (gad Γ) (gA Γ) (xs X)) {kx : Nat} {j : Int32} (hd : decode cc pc = .ok (.baload, 1)) (hk : kx < 3) (hin : vp_in j (strN kx)) (k : GG Γ X d nL Q (pc + 1) lv (.int (strB kx j.toNatClampNeg) :: st) w) : GG Γ X d nL Q pc lv (.int j :: .ref (gad Γ (110 + kx)) :: st) w := fun ls H locs hl hP hS => va_tb hO.1 hO.2.1 (hX.2.2.2.2.2.1.1 kx hk).2.2.2 hS hin rfl hd (k ls H locs hl hP hS)
theorem G_strLen (hO : OKM Γ X own cc nL ret) (hX : EXF (gad Γ) (gA Γ) (xs X)) {kx : Nat} (hd : decode cc pc = .ok (.arraylength, 1)) (hk : kx < 3) (k : GG Γ X d nL Q (pc + 1) lv (.int (nI (strN kx)) :: st) w) : GG Γ X d nL Q pc lv (.ref (gad Γ (110 + kx)) :: st) w := fun ls H locs hl hP hS => by
  obtain ⟨cell, h1, h2, h3, h4, h5, h6, h7⟩ := (hX.2.2.2.2.2.1.1 kx hk).2.2.2
  exact W.alen (n := nI (strN kx)) hO.1 hO.2.1 (by rw [hS.2.1 _ (Array.getElem?_eq_some_iff.mp h1).1 h7]; exact h1) h2 h5 (g := F0 (xm X) pc ls (.ref (gad Γ (110 + kx)) :: st)) rfl rfl hd (k ls H locs hl hP hS)
theorem G_callT (hO : OKM Γ X own cc nL ret) (hX : EXF (gad Γ) (gA Γ) (xs X)) {kx : Nat} {M : Mth} {idx n : Nat} {As : List Value} {K : Int32 → Wd → Prop} (hd : decode cc pc = .ok (.invokevirtual idx, 3)) (hk : kx < 3) (h : CI Γ d M (.ref (gad Γ (100 + kx)) :: As) w K) (hw : CallV own "java/lang/String" idx M n) (hn : As.length = n) (hr : (rest.map fun v => v.category).sum ≤ 8) (k : ∀ v w', K v w' → GG Γ X (d + 1) nL Q (pc + 3) lv (.int v :: rest) w') (hst : st = As.reverse ++ .ref (gad Γ (100 + kx)) :: rest) : GG Γ X (d + 1) nL Q pc lv st w := fun ls H locs hl hP hS => by
  obtain ⟨h1, h2, h3, h4⟩ := hw
  exact run_go hO (va_runV (As := As) (rest := rest) ⟨hO.1, hO.2.1, hO.2.2.1, hO.2.2.2.1, hO.2.2.2.2.1⟩ h ⟨callD_B hO h4 h1, hO.2.2.2.2.1 _ h2, hO.2.2.2.2.1 _ h3⟩ ⟨Inv_blind hO.2.2.2.2.2.2.2.2.1, vk_recv (i := kx) hX.2.2.2.2.2.1 hk hS, fun U hU hW => ⟨rfl, Inv_here hO hP hS hU hW⟩⟩ rfl hn hl.1 hst (lv_room hr) hd ⟨Nat.le_refl _, Nat.le_refl _⟩) hl hS (fun r w' ⟨v, e, hk⟩ => by subst e; exact k v w' hk)
end XROWS
theorem cp_link : Cond.methodLink RX4 250 arraycopyName ∈ AW := AW_mem 724 (by decide +kernel) (by decide +kernel)
theorem cp_nat : Cond.native arraycopyName ∈ AW := AW_mem 726 (by decide +kernel) (by decide +kernel)
theorem cp_sta : Cond.static arraycopyName ∈ AW := AW_mem 725 (by decide +kernel) (by decide +kernel)
theorem cp_ini : Cond.initialized "java/lang/System" ∈ AW := AW_mem 83 (by decide +kernel) (by decide +kernel)
