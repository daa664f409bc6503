/-! a judgement over written cells (constructors, the law), and rows for it -/
theorem K_same {D : va_G} {cl : List vw_C} {tys : List (ClassId × FieldType)} {U : State} (h : va_K D cl tys U) {i j : Nat} {a b : ClassId} {ty : FieldType} (hi : tys[i]? = some (a, ty)) (hj : tys[j]? = some (b, ty)) : a = b := by
  have h1 := (h.2 i _ hi).2
  have h2 := (h.2 j _ hj).2
  cases ty with
  | object C =>
    obtain ⟨_, _, _, _, _, e1⟩ := h1
    obtain ⟨_, _, _, _, _, e2⟩ := h2
    exact Option.some.inj (e1.symm.trans e2)
  | _ =>
    have e1 : U.vm.findClass _ = some a := h1
    have e2 : U.vm.findClass _ = some b := h2
    exact Option.some.inj (e1.symm.trans e2)
theorem D_map {A : Nat → Prop} {ws ws' : va_W} (e : ws.map (fun q => q.1) = ws'.map (fun q => q.1)) (h : va_D A ws) : va_D A ws' := by
  have key : ∀ (k : Nat) (q : Nat × va_E), ws'[k]? = some q → ∃ q0 : Nat × va_E, ws[k]? = some q0 ∧ q0.1 = q.1 := by
    intro k q hk
    have h1 : (ws.map (fun q => q.1))[k]? = some q.1 := by rw [e, List.getElem?_map, hk]; rfl
    rw [List.getElem?_map] at h1
    cases h2 : ws[k]? with
    | none => rw [h2] at h1; cases h1
    | some q0 =>
      rw [h2] at h1
      exact ⟨q0, rfl, Option.some.inj h1⟩
  refine ⟨fun i j p q hi hj hpq => ?_, fun k q hk => ?_⟩
  · obtain ⟨p0, a1, a2⟩ := key i p hi
    obtain ⟨q0, b1, b2⟩ := key j q hj
    exact h.1 i j p0 q0 a1 b1 (by rw [a2, b2]; exact hpq)
  · obtain ⟨q0, a1, a2⟩ := key k q hk
    rw [← a2]
    exact h.2 k q0 a1
theorem cels_fst {cA : Nat → ClassId} {ad : Nat → Nat} {w w' : Wd} : ∀ (ss : List Sh) (i : Nat), (cels cA ad w i ss).map (fun q => q.1) = (cels cA ad w' i ss).map (fun q => q.1)
  | [], _ => rfl
  | s :: ss, i => by
    simp only [cels, List.map_cons]
    rw [cels_fst ss (i + 1)]
theorem P_left {D : va_G} {cl : List vw_C} {a b : va_W} {H : Heap} (h : va_P D cl (a ++ b) H) : va_P D cl a H := fun k q hk => h k q (by rw [List.getElem?_append_left (List.getElem?_eq_some_iff.mp hk).1]; exact hk)
theorem P_right {D : va_G} {cl : List vw_C} {a b : va_W} {H : Heap} (h : va_P D cl (a ++ b) H) : va_P D cl b H := fun k q hk => h (a.length + k) q (by rw [List.getElem?_append_right (by omega)]; rw [Nat.add_sub_cancel_left]; exact hk)
theorem at_left {a b : va_W} {k : Nat} {q : Nat × va_E} (h : a[k]? = some q) : (a ++ b)[k]? = some q := by
  rw [List.getElem?_append_left (List.getElem?_eq_some_iff.mp h).1]
  exact h
theorem at_right {a b : va_W} {k : Nat} {q : Nat × va_E} (h : b[k]? = some q) : (a ++ b)[a.length + k]? = some q := by
  rw [List.getElem?_append_right (by omega), Nat.add_sub_cancel_left]
  exact h
/-- what a call gives back, beside the rest that it didn't touch -/
theorem VJ {A0 : Nat → Prop} {D : va_G} {cl : List vw_C} {wr wc u : va_W} {H H1 : Heap} (hP : va_P D cl (wr ++ wc) H) (hD : va_D A0 (wr ++ wc)) (hk : ∀ q : Nat, q < H.size → ¬ va_A wc H.size q → H1[q]? = H[q]?) (hF : ∀ q, va_A wc H.size q → A0 q) (hP1 : va_P D cl u H1) (hD1 : va_D (va_A wc H.size) u) : va_P D cl (wr ++ u) H1 ∧ va_D A0 (wr ++ u) := by
  have apart : ∀ (k : Nat) (q : Nat × va_E), wr[k]? = some q → q.1 < H.size ∧ ¬ va_A wc H.size q.1 := by
    intro k q hq
    have hl := (hP k q (at_left hq)).lt
    refine ⟨hl, fun h => ?_⟩
    rcases h with ⟨k2, e, h⟩ | h
    · have := hD.1 k (wr.length + k2) q (q.1, e) (at_left hq) (at_right h) rfl
      have := (List.getElem?_eq_some_iff.mp hq).1
      omega
    · omega
  refine ⟨va_P.app (fun k q hq => ?_) hP1, ⟨fun i j p q hi hj hpq => ?_, fun k q hq => ?_⟩⟩
  · obtain ⟨g1, g2⟩ := apart k q hq
    exact (hP k q (at_left hq)).kept (hk q.1 g1 g2)
  · by_cases h1 : i < wr.length
    · rw [List.getElem?_append_left h1] at hi
      by_cases h2 : j < wr.length
      · rw [List.getElem?_append_left h2] at hj
        exact hD.1 i j p q (at_left hi) (at_left hj) hpq
      · rw [List.getElem?_append_right (by omega)] at hj
        exact absurd (hD1.2 _ q hj) (by rw [← hpq]; exact (apart i p hi).2)
    · rw [List.getElem?_append_right (by omega)] at hi
      by_cases h2 : j < wr.length
      · rw [List.getElem?_append_left h2] at hj
        exact absurd (hD1.2 _ p hi) (by rw [hpq]; exact (apart j q hj).2)
      · rw [List.getElem?_append_right (by omega)] at hj
        have := hD1.1 _ _ p q hi hj hpq
        omega
  · by_cases h1 : k < wr.length
    · rw [List.getElem?_append_left h1] at hq
      exact hD.2 k q (at_left hq)
    · rw [List.getElem?_append_right (by omega)] at hq
      exact hF _ (hD1.2 _ q hq)
/-- the launch, the classes' numbers, the arrays' classes, the room, the cells that may change, the end -/
abbrev Yx : Type := Launch × va_G × (Nat → ClassId) × Room × (Nat → Prop) × (State → Prop)
abbrev yl (Y : Yx) : Launch := Y.1
abbrev yD (Y : Yx) : va_G := Y.2.1
abbrev yA (Y : Yx) : Nat → ClassId := Y.2.2.1
abbrev yR (Y : Yx) : Room := Y.2.2.2.1
abbrev yF (Y : Yx) : Nat → Prop := Y.2.2.2.2.1
abbrev yZ (Y : Yx) : State → Prop := Y.2.2.2.2.2
def OKC (Y : Yx) (X : Mx) (own : String) (cc : ByteArray) (nL : Nat) : Prop :=
  (xp X).tables.exec = Jvm.exec ∧ (xc X).code = cc ∧ (xc X).maxLocals = nL ∧ (xs X).vm.findClass own = some (xm X).cls ∧ (∀ w ∈ AW, w.before (xa X) (xs X) = true) ∧ (xt X).locks = false ∧
  va_K (yD Y) vwCl (gTys (yA Y)) (xs X) ∧ (∀ q : Nat, (xs X).heap.size ≤ q → yF Y q)
def CC (Y : Yx) (X : Mx) (nL pc : Nat) (lv : List (Option Value)) (st : List Value) (ws : va_W) (kc ks : Nat) : Prop :=
  ∀ (ls : Array Slot) (H : Heap) (locs : List Loc), LH ls nL lv → va_P (yD Y) vwCl ws H → va_D (yF Y) ws → va_S (yF Y) (xs X).heap H locs →
    W (xp X) (yl Y) (xe X) (yR Y) (xs X) (xm X) (xa X) (xb X) (xt X) (xc X) H locs kc ks (yZ Y) (F0 (xm X) pc ls st)
theorem ac_int : Cond.arrayClass .int ∈ AW := AW_mem 131 (by decide +kernel) (by decide +kernel)
theorem ac_bool : Cond.arrayClass .boolean ∈ AW := AW_mem 872 (by decide +kernel) (by decide +kernel)
theorem oi_inst : Cond.instanceMethod Lib.objectInit ∈ AW := AW_mem 90 (by decide +kernel) (by decide +kernel)
theorem oi_code : Cond.code Lib.objectInit ⟨#[0xb1]⟩ 1 none ∈ AW := AW_mem 91 (by decide +kernel) (by decide +kernel)
section CROWS
variable {Y : Yx} {X : Mx} {own : String} {cc : ByteArray} {nL pc kc ks : Nat} {lv : List (Option Value)} {st rest : List Value} {ws : va_W}
theorem CC.atpc {pc2 : Nat} (e : pc2 = pc) (k : CC Y X nL pc2 lv st ws kc ks) : CC Y X nL pc lv st ws kc ks := e ▸ k
theorem CC.cells {ws2 : va_W} (e : ws = ws2) (k : CC Y X nL pc lv st ws2 kc ks) : CC Y X nL pc lv st ws kc ks := e ▸ k
theorem CC.cnt {kc2 ks2 : Nat} (e1 : kc = kc2) (e2 : ks = ks2) (k : CC Y X nL pc lv st ws kc2 ks2) : CC Y X nL pc lv st ws kc ks := e1 ▸ e2 ▸ k
theorem C_iconst (hO : OKC Y X own cc nL) {n : Int} {v : Int32} (hd : decode cc pc = .ok (.iconst n, 1)) (hv : Int32.ofInt n = v) (k : CC Y X nL (pc + 1) lv (.int v :: st) ws kc ks) : CC Y X nL pc lv st ws kc ks := fun ls H locs hl hP hD hS => lv_iconst hO.1 hO.2.1 hd hv (k ls H locs hl hP hD hS)
theorem C_bipush (hO : OKC Y X own cc nL) {n : Int} {v : Int32} (hd : decode cc pc = .ok (.bipush n, 2)) (hv : (Int8.ofInt n).toInt32 = v) (k : CC Y X nL (pc + 2) lv (.int v :: st) ws kc ks) : CC Y X nL pc lv st ws kc ks := fun ls H locs hl hP hD hS => lv_bipush hO.1 hO.2.1 hd hv (k ls H locs hl hP hD hS)
theorem C_sipush (hO : OKC Y X own cc nL) {n : Int} {v : Int32} (hd : decode cc pc = .ok (.sipush n, 3)) (hv : (Int16.ofInt n).toInt32 = v) (k : CC Y X nL (pc + 3) lv (.int v :: st) ws kc ks) : CC Y X nL pc lv st ws kc ks := fun ls H locs hl hP hD hS => lv_sipush hO.1 hO.2.1 hd hv (k ls H locs hl hP hD hS)
theorem C_iload_n (hO : OKC Y X own cc nL) {q : Fin 4} {i : Nat} {x : Int32} (hd : decode cc pc = .ok (.iload_n q, 1)) (hi : (q : Nat) = i) (hx : lv[i]? = some (some (.int x))) (k : CC Y X nL (pc + 1) lv (.int x :: st) ws kc ks) : CC Y X nL pc lv st ws kc ks := fun ls H locs hl hP hD hS => lv_iload_n hO.1 hO.2.1 hd hi (hl.2.2 _ _ hx) (k ls H locs hl hP hD hS)
theorem C_aload_n (hO : OKC Y X own cc nL) {q : Fin 4} {i : Nat} {x : Nat} (hd : decode cc pc = .ok (.aload_n q, 1)) (hi : (q : Nat) = i) (hx : lv[i]? = some (some (.ref x))) (k : CC Y X nL (pc + 1) lv (.ref x :: st) ws kc ks) : CC Y X nL pc lv st ws kc ks := fun ls H locs hl hP hD hS => lv_aload_n hO.1 hO.2.1 hd hi (hl.2.2 _ _ hx) (k ls H locs hl hP hD hS)
theorem C_istore_n (hO : OKC Y X own cc nL) {q : Fin 4} {i : Nat} {x : Int32} {lv2 : List (Option Value)} (hd : decode cc pc = .ok (.istore_n q, 1)) (hi : (q : Nat) = i) (hn : i < nL) (hok : okSt lv i = true) (he : lv.set i (some (.int x)) = lv2) (k : CC Y X nL (pc + 1) lv2 st ws kc ks) : CC Y X nL pc lv (.int x :: st) ws kc ks := fun ls H locs hl hP hD hS => lv_istore_n hO.1 hO.2.1 hd hi hl.has hn rfl (fun ls2 h2 => k ls2 H locs (LH.put h2 hok he) hP hD hS)
theorem C_astore_n (hO : OKC Y X own cc nL) {q : Fin 4} {i : Nat} {x : Nat} {lv2 : List (Option Value)} (hd : decode cc pc = .ok (.astore_n q, 1)) (hi : (q : Nat) = i) (hn : i < nL) (hok : okSt lv i = true) (he : lv.set i (some (.ref x)) = lv2) (k : CC Y X nL (pc + 1) lv2 st ws kc ks) : CC Y X nL pc lv (.ref x :: st) ws kc ks := fun ls H locs hl hP hD hS => lv_astore_n hO.1 hO.2.1 hd hi hl.has hn rfl (fun ls2 h2 => k ls2 H locs (LH.put h2 hok he) hP hD hS)
theorem C_iinc (hO : OKC Y X own cc nL) {i : Nat} {n : Int} {x v : Int32} {lv2 : List (Option Value)} (hd : decode cc pc = .ok (.iinc i n, 3)) (hx : lv[i]? = some (some (.int x))) (hv : x + Int32.ofInt n = v) (hn : i < nL) (hok : okSt lv i = true) (he : lv.set i (some (.int v)) = lv2) (k : CC Y X nL (pc + 3) lv2 st ws kc ks) : CC Y X nL pc lv st ws kc ks := fun ls H locs hl hP hD hS => by
  obtain ⟨q, hq⟩ := List.getElem?_of_mem (mem_prs.mpr hx)
  exact lv_iinc hO.1 hO.2.1 hd hl.has hq hv hn rfl (fun ls2 h2 => k ls2 H locs (LH.put h2 hok he) hP hD hS)
theorem C_iadd (hO : OKC Y X own cc nL) {x y : Int32} (hd : decode cc pc = .ok (.iadd, 1)) (k : CC Y X nL (pc + 1) lv (.int (x + y) :: st) ws kc ks) : CC Y X nL pc lv (.int y :: .int x :: st) ws kc ks := fun ls H locs hl hP hD hS => lv_iadd hO.1 hO.2.1 hd (k ls H locs hl hP hD hS)
theorem C_isub (hO : OKC Y X own cc nL) {x y : Int32} (hd : decode cc pc = .ok (.isub, 1)) (k : CC Y X nL (pc + 1) lv (.int (x - y) :: st) ws kc ks) : CC Y X nL pc lv (.int y :: .int x :: st) ws kc ks := fun ls H locs hl hP hD hS => lv_isub hO.1 hO.2.1 hd (k ls H locs hl hP hD hS)
theorem C_iand (hO : OKC Y X own cc nL) {x y : Int32} (hd : decode cc pc = .ok (.iand, 1)) (k : CC Y X nL (pc + 1) lv (.int (x &&& y) :: st) ws kc ks) : CC Y X nL pc lv (.int y :: .int x :: st) ws kc ks := fun ls H locs hl hP hD hS => lv_iand hO.1 hO.2.1 hd (k ls H locs hl hP hD hS)
theorem C_lcmp (hO : OKC Y X own cc nL) {x y : Int64} (hd : decode cc pc = .ok (.lcmp, 1)) (k : CC Y X nL (pc + 1) lv (.int (lg_cmp x y) :: st) ws kc ks) : CC Y X nL pc lv (.long y :: .long x :: st) ws kc ks := fun ls H locs hl hP hD hS => W.lcmp hO.1 hO.2.1 hd (k ls H locs hl hP hD hS)
theorem C_dup (hO : OKC Y X own cc nL) {va : Value} (hd : decode cc pc = .ok (.dup, 1)) (hva : va.category = 1) (k : CC Y X nL (pc + 1) lv (va :: va :: st) ws kc ks) : CC Y X nL pc lv (va :: st) ws kc ks := fun ls H locs hl hP hD hS => lv_dup hO.1 hO.2.1 hd hva (k ls H locs hl hP hD hS)
theorem C_pop (hO : OKC Y X own cc nL) {va : Value} (hd : decode cc pc = .ok (.pop, 1)) (hva : va.category = 1) (k : CC Y X nL (pc + 1) lv st ws kc ks) : CC Y X nL pc lv (va :: st) ws kc ks := fun ls H locs hl hP hD hS => lv_pop hO.1 hO.2.1 hd hva (k ls H locs hl hP hD hS)
theorem C_goto (hO : OKC Y X own cc nL) {off : Int} {tgt : Nat} (hd : decode cc pc = .ok (.goto off, 3)) (ht : (pc : Int) + off = (tgt : Int)) (k : CC Y X nL tgt lv st ws kc ks) : CC Y X nL pc lv st ws kc ks := fun ls H locs hl hP hD hS => lv_goto hO.1 hO.2.1 hd ht (k ls H locs hl hP hD hS)
theorem C_icmp_ge (hO : OKC Y X own cc nL) {x y : Int32} {off : Int} {tgt : Nat} (hd : decode cc pc = .ok (.if_icmp .ge off, 3)) (ht : (pc : Int) + off = (tgt : Int)) (kt : y ≤ x → CC Y X nL tgt lv st ws kc ks) (kf : ¬ y ≤ x → CC Y X nL (pc + 3) lv st ws kc ks) : CC Y X nL pc lv (.int y :: .int x :: st) ws kc ks := fun ls H locs hl hP hD hS => lv_icmp_ge hO.1 hO.2.1 hd ht (fun h => kt h ls H locs hl hP hD hS) (fun h => kf h ls H locs hl hP hD hS)
theorem C_icmp_gt (hO : OKC Y X own cc nL) {x y : Int32} {off : Int} {tgt : Nat} (hd : decode cc pc = .ok (.if_icmp .gt off, 3)) (ht : (pc : Int) + off = (tgt : Int)) (kt : y < x → CC Y X nL tgt lv st ws kc ks) (kf : ¬ y < x → CC Y X nL (pc + 3) lv st ws kc ks) : CC Y X nL pc lv (.int y :: .int x :: st) ws kc ks := fun ls H locs hl hP hD hS => lv_icmp_gt hO.1 hO.2.1 hd ht (fun h => kt h ls H locs hl hP hD hS) (fun h => kf h ls H locs hl hP hD hS)
theorem C_icmp_eq (hO : OKC Y X own cc nL) {x y : Int32} {off : Int} {tgt : Nat} (hd : decode cc pc = .ok (.if_icmp .eq off, 3)) (ht : (pc : Int) + off = (tgt : Int)) (kt : x = y → CC Y X nL tgt lv st ws kc ks) (kf : ¬ x = y → CC Y X nL (pc + 3) lv st ws kc ks) : CC Y X nL pc lv (.int y :: .int x :: st) ws kc ks := fun ls H locs hl hP hD hS => lv_icmp_eq hO.1 hO.2.1 hd ht (fun h => kt h ls H locs hl hP hD hS) (fun h => kf h ls H locs hl hP hD hS)
theorem C_if_eq (hO : OKC Y X own cc nL) {x : Int32} {off : Int} {tgt : Nat} (hd : decode cc pc = .ok (.ifCond .eq off, 3)) (ht : (pc : Int) + off = (tgt : Int)) (kt : x = 0 → CC Y X nL tgt lv st ws kc ks) (kf : ¬ x = 0 → CC Y X nL (pc + 3) lv st ws kc ks) : CC Y X nL pc lv (.int x :: st) ws kc ks := fun ls H locs hl hP hD hS => lv_if_eq hO.1 hO.2.1 hd ht (fun h => kt h ls H locs hl hP hD hS) (fun h => kf h ls H locs hl hP hD hS)
theorem C_tabIn (hO : OKC Y X own cc nL) {dflt lo hi off : Int} {offs : Array Int} {len tgt : Nat} {x : Int32} (j : Nat) (hd : decode cc pc = .ok (.tableswitch dflt lo hi offs, len)) (hj : lo + j ≤ hi) (ho : offs[j]? = some off) (hx : x.toInt = lo + j) (ht : (pc : Int) + off = (tgt : Int)) (k : CC Y X nL tgt lv st ws kc ks) : CC Y X nL pc lv (.int x :: st) ws kc ks := fun ls H locs hl hP hD hS => by
  refine lv_tableIn hO.1 hO.2.1 hd (by omega) (by omega) (off := off) ?_ ht (k ls H locs hl hP hD hS)
  have e : (x.toInt - lo).toNat = j := by omega
  rw [e]
  exact ho
theorem C_tabOut (hO : OKC Y X own cc nL) {dflt lo hi : Int} {offs : Array Int} {len tgt : Nat} {x : Int32} (hd : decode cc pc = .ok (.tableswitch dflt lo hi offs, len)) (hx : x.toInt < lo ∨ hi < x.toInt) (ht : (pc : Int) + dflt = (tgt : Int)) (k : CC Y X nL tgt lv st ws kc ks) : CC Y X nL pc lv (.int x :: st) ws kc ks := fun ls H locs hl hP hD hS => lv_tableOut hO.1 hO.2.1 hd hx ht (k ls H locs hl hP hD hS)
theorem C_objInit (hO : OKC Y X own cc nL) {idx a : Nat} (hd : decode cc pc = .ok (.invokespecial idx, 3)) (hlk : Cond.methodLink own idx Lib.objectInit ∈ AW) (hr : (st.map fun v => v.category).sum ≤ 8) (hf : 1 ≤ (yR Y).frames) (hlo : 20 ≤ (yR Y).locals) (k : CC Y X nL (pc + 3) lv st ws kc ks) : CC Y X nL pc lv (.ref a :: st) ws kc ks := fun ls H locs hl hP hD hS =>
  W.objInit hO.1 hO.2.1 hO.2.2.2.1 (hO.2.2.2.2.1 _ hlk) (hO.2.2.2.2.1 _ oi_inst) (hO.2.2.2.2.1 _ oi_code) rfl (hl.1.trans hO.2.2.1.symm) rfl hd hf (by
    have := lv_room (m := xm X) (pc := pc) (ls := ls) (rest := .ref a :: st) hr
    omega) (k ls H locs hl hP hD hS)
theorem C_newI (hO : OKC Y X own cc nL) {n : Int32} {N : Nat} (hd : decode cc pc = .ok (.newarray .int, 2)) (hn : ¬ n < 0) (hN : n.toNatClampNeg = N) (hb : N * 4 ≤ 536870912) (hc : kc + 1 ≤ (yR Y).cells) (hs : ks + N ≤ (yR Y).slots) (k : ∀ q : Nat, CC Y X nL (pc + 2) lv (.ref q :: st) (ws ++ [(q, .inl (yA Y 0, N, .inl fun _ => 0))]) (kc + 1) (ks + N)) : CC Y X nL pc lv (.int n :: st) ws kc ks := fun ls H locs hl hP hD hS => by
  refine va_newa (atype := .int) (ty := .int) hO.1 hO.2.1 (hO.2.2.2.2.1 _ ac_int) rfl hO.2.2.2.2.2.2.1 hP hD hS hO.2.2.2.2.2.2.2 (a0 := (N, .inl fun _ => 0)) (fun _ => rfl) hn hN hb hc hs hd (fun q cA H1 hK hP1 hD1 hS1 => ?_)
  obtain rfl : yA Y 0 = cA := K_same hK (i := 0) (j := 4) rfl rfl
  exact k q ls H1 locs hl hP1 hD1 hS1
theorem C_newZ (hO : OKC Y X own cc nL) {n : Int32} {N : Nat} (hd : decode cc pc = .ok (.newarray .boolean, 2)) (hn : ¬ n < 0) (hN : n.toNatClampNeg = N) (hb : N * 1 ≤ 536870912) (hc : kc + 1 ≤ (yR Y).cells) (hs : ks + N ≤ (yR Y).slots) (k : ∀ q : Nat, CC Y X nL (pc + 2) lv (.ref q :: st) (ws ++ [(q, .inl (yA Y 1, N, .inl fun _ => 0))]) (kc + 1) (ks + N)) : CC Y X nL pc lv (.int n :: st) ws kc ks := fun ls H locs hl hP hD hS => by
  refine va_newa (atype := .boolean) (ty := .boolean) hO.1 hO.2.1 (hO.2.2.2.2.1 _ ac_bool) rfl hO.2.2.2.2.2.2.1 hP hD hS hO.2.2.2.2.2.2.2 (a0 := (N, .inl fun _ => 0)) (fun _ => rfl) hn hN hb hc hs hd (fun q cA H1 hK hP1 hD1 hS1 => ?_)
  obtain rfl : yA Y 1 = cA := K_same hK (i := 1) (j := 4) rfl rfl
  exact k q ls H1 locs hl hP1 hD1 hS1
theorem C_newQ (hO : OKC Y X own cc nL) {idx t : Nat} {C : String} {n : Int32} {N : Nat} (hd : decode cc pc = .ok (.anewarray idx, 3)) (ht : gTy t = .object C) (ht4 : (gTys (yA Y))[t]? = some (yA Y t, gTy t)) (hcl : Cond.classLink own idx C ∈ AW) (hao : va_AO C (xs X)) (hn : ¬ n < 0) (hN : n.toNatClampNeg = N) (hb : N * 4 ≤ 536870912) (hc : kc + 1 ≤ (yR Y).cells) (hs : ks + N ≤ (yR Y).slots) (k : ∀ q : Nat, CC Y X nL (pc + 3) lv (.ref q :: st) (ws ++ [(q, .inl (yA Y t, N, .inr (.inr (.inr (.inr fun _ => none)))))]) (kc + 1) (ks + N)) : CC Y X nL pc lv (.int n :: st) ws kc ks := fun ls H locs hl hP hD hS => by
  refine va_newq hO.1 hO.2.1 hO.2.2.2.1 (hO.2.2.2.2.1 _ hcl) hao hO.2.2.2.2.2.2.1 hP hD hS hO.2.2.2.2.2.2.2 hn hN hb hc hs hd (fun q cA H1 hK hP1 hD1 hS1 => ?_)
  rw [ht] at ht4
  obtain rfl : yA Y t = cA := K_same hK (i := t) (j := 4) (by rw [List.getElem?_append_left (List.getElem?_eq_some_iff.mp ht4).1]; exact ht4) rfl
  exact k q ls H1 locs hl hP1 hD1 hS1
theorem C_new (hO : OKC Y X own cc nL) {idx ci N : Nat} {C : String} {T : u_T} {fs : List Value} (hd : decode cc pc = .ok (.new idx, 3)) (hin : ∀ w ∈ u_ws C T N, w ∈ AW) (ty : Nat → FieldType) (hty : ∀ k, k < N → parseFieldDescriptor (T k).2.2.1 = some (ty k)) (hcl : Cond.classLink own idx C ∈ AW) (hinst : Cond.instantiable C N ∈ AW) (hini : Cond.initialized C ∈ AW) (hc : vwCl[ci]? = some (C, T, N)) (hfs : ∀ j, j < N → defaultValue (ty j) = vp_V fs j) (hk : kc + 1 ≤ (yR Y).cells) (hs : ks + N ≤ (yR Y).slots) (k : ∀ q : Nat, CC Y X nL (pc + 3) lv (.ref q :: st) (ws ++ [(q, .inr (ci, fs))]) (kc + 1) (ks + N)) : CC Y X nL pc lv st ws kc ks := fun ls H locs hl hP hD hS =>
  va_new hO.1 hO.2.1 hO.2.2.2.2.1 hin ty hty hO.2.2.2.1 (hO.2.2.2.2.1 _ hcl) (hO.2.2.2.2.1 _ hinst) (hO.2.2.2.2.1 _ hini) hO.2.2.2.2.2.2.1 hP hD hS hO.2.2.2.2.2.2.2 hc hfs hk hs hd (fun q H1 hP1 hD1 hS1 => k q ls H1 locs hl hP1 hD1 hS1)
theorem C_putF (hO : OKC Y X own cc nL) (hI : (xt X).name = "<init>") {a ci N idx : Nat} {C : String} {T : u_T} {fs : List Value} {v : Value} {ty : FieldType} (hd : decode cc pc = .ok (.putfield idx, 3)) (ty0 : Nat → FieldType) (q0 kk : Nat) (he : ws[q0]? = some (a, .inr (ci, fs))) (hc : vwCl[ci]? = some (C, T, N)) (hin : ∀ w ∈ u_ws C T N, w ∈ AW) (hty : ∀ k, k < N → parseFieldDescriptor (T k).2.2.1 = some (ty0 k)) (hnm : ∀ a, a < N → ∀ b, b < N → a ≠ b → (T a).2.1 ≠ (T b).2.1) (hk : kk < N) (hlk : Cond.fieldLink own idx (T kk).1 (T kk).2.1 (T kk).2.2.1 ∈ AW) (hfin : (T kk).2.2.2 = true) (hde : (T kk).1 = own) (het : ty0 kk = ty) (hn : narrow ty v = v) (hfit : fits ty v = true) (hlen : kk < fs.length) {ws2 : va_W} (e : ws.set q0 (a, .inr (ci, fs.set kk v)) = ws2) (k : CC Y X nL (pc + 3) lv st ws2 kc ks) : CC Y X nL pc lv (v :: .ref a :: st) ws kc ks := fun ls H locs hl hP hD hS => by
  subst e
  exact va_putF hO.1 hO.2.1 hO.2.2.2.2.1 hin ty0 hty hnm hO.2.2.2.1 hO.2.2.2.2.2.2.1 hP hD hS q0 he hc kk hk (hO.2.2.2.2.1 _ hlk) (fun _ h => h) hfin hI hde (hd := by rw [hty kk hk, het]) hn hfit hlen hd (fun H1 locs1 hP1 hD1 hS1 => k ls H1 locs1 hl hP1 hD1 hS1)
theorem C_put (hO : OKC Y X own cc nL) {a ci N idx : Nat} {C : String} {T : u_T} {fs : List Value} {v : Value} {ty : FieldType} (hd : decode cc pc = .ok (.putfield idx, 3)) (ty0 : Nat → FieldType) (q0 kk : Nat) (he : ws[q0]? = some (a, .inr (ci, fs))) (hc : vwCl[ci]? = some (C, T, N)) (hin : ∀ w ∈ u_ws C T N, w ∈ AW) (hty : ∀ k, k < N → parseFieldDescriptor (T k).2.2.1 = some (ty0 k)) (hnm : ∀ a, a < N → ∀ b, b < N → a ≠ b → (T a).2.1 ≠ (T b).2.1) (hk : kk < N) (hlk : Cond.fieldLink own idx (T kk).1 (T kk).2.1 (T kk).2.2.1 ∈ AW) (hfin : (T kk).2.2.2 = false) (het : ty0 kk = ty) (hn : narrow ty v = v) (hfit : fits ty v = true) (hlen : kk < fs.length) {ws2 : va_W} (e : ws.set q0 (a, .inr (ci, fs.set kk v)) = ws2) (k : CC Y X nL (pc + 3) lv st ws2 kc ks) : CC Y X nL pc lv (v :: .ref a :: st) ws kc ks := fun ls H locs hl hP hD hS => by
  subst e
  exact va_put hO.1 hO.2.1 hO.2.2.2.2.1 hin ty0 hty hnm hO.2.2.2.1 hO.2.2.2.2.2.2.1 hP hD hS q0 he hc kk hk (hO.2.2.2.2.1 _ hlk) (fun _ h => h) hfin (hd := by rw [hty kk hk, het]) hn hfit hlen hd (fun H1 locs1 hP1 hD1 hS1 => k ls H1 locs1 hl hP1 hD1 hS1)
theorem C_get (hO : OKC Y X own cc nL) {a ci N idx : Nat} {C : String} {T : u_T} {fs : List Value} {v : Value} (hd : decode cc pc = .ok (.getfield idx, 3)) (q0 kk : Nat) (he : ws[q0]? = some (a, .inr (ci, fs))) (hc : vwCl[ci]? = some (C, T, N)) (hin : ∀ w ∈ u_ws C T N, w ∈ AW) (hk : kk < N) (hlk : Cond.fieldLink own idx (T kk).1 (T kk).2.1 (T kk).2.2.1 ∈ AW) (hv : fs[kk]? = some v) (k : CC Y X nL (pc + 3) lv (v :: st) ws kc ks) : CC Y X nL pc lv (.ref a :: st) ws kc ks := fun ls H locs hl hP hD hS =>
  va_get hO.1 hO.2.1 hO.2.2.2.2.1 hin hO.2.2.2.1 hO.2.2.2.2.2.2.1 hP q0 he hc kk hk (hO.2.2.2.2.1 _ hlk) (fun _ h => h) hv hd (k ls H locs hl hP hD hS)
theorem C_aast (hO : OKC Y X own cc nL) {a v ci n t : Nat} {r : vw_C} {vs : List Value} {f : Nat → Option Nat} {i : Int32} (hd : decode cc pc = .ok (.aastore, 1)) (q0 qk : Nat) (ha : ws[q0]? = some (a, .inl (yA Y t, n, .inr (.inr (.inr (.inr f)))))) (ht : (gTys (yA Y))[t]? = some (yA Y t, .object r.1)) (hv : ws[qk]? = some (v, .inr (ci, vs))) (hc : vwCl[ci]? = some r) (hin : vp_in i n) {ws2 : va_W} (e : ws.set q0 (a, .inl (yA Y t, n, .inr (.inr (.inr (.inr (va_up f i.toNatClampNeg (some v))))))) = ws2) (k : CC Y X nL (pc + 1) lv st ws2 kc ks) : CC Y X nL pc lv (.ref v :: .int i :: .ref a :: st) ws kc ks := fun ls H locs hl hP hD hS => by
  subst e
  exact va_astq hO.1 hO.2.1 hO.2.2.2.2.2.2.1 hP hD hS q0 t qk ci ha ht hv hc hin hd (fun H1 locs1 hP1 hD1 hS1 => k ls H1 locs1 hl hP1 hD1 hS1)
end CROWS
/-- a constructor's contract: from the cell ws0 to cells u with B u, kc cells of ks slots more -/
def NewC (l : Launch) (D : va_G) (cA : Nat → ClassId) (M : Mth) (d kc ks : Nat) (E : State → Prop) (as : List Value) (ws0 : va_W) (B : va_W → Prop) : Prop :=
  ∀ sz : Nat, Met l M.1 (wsM M) { frames := d, cells := kc, slots := ks, locals := 64 * d } (va_Pc as (fun U => U.heap.size = sz ∧ va_P D vwCl ws0 U.heap ∧ va_K D vwCl (gTys cA) U ∧ va_D (fun _ => True) ws0 ∧ E U))
    (va_Qv (S := va_W) B (fun u t => va_P D vwCl u t.heap ∧ va_K D vwCl (gTys cA) t ∧ va_D (va_A ws0 sz) u) (va_A ws0 sz)) kc ks (va_A ws0 sz)
def yN (l : Launch) (D : va_G) (cA : Nat → ClassId) (X : Mx) (d kc ks : Nat) (ws0 : va_W) (B : va_W → Prop) : Yx :=
  (l, D, cA, { frames := d, cells := kc, slots := ks, locals := 64 * d }, va_A ws0 (xs X).heap.size, MQ (xb X) (va_Qv (S := va_W) B (fun u t => va_P D vwCl u t.heap ∧ va_K D vwCl (gTys cA) t ∧ va_D (va_A ws0 (xs X).heap.size) u) (va_A ws0 (xs X).heap.size)) (xa X) (xs X) kc ks (va_A ws0 (xs X).heap.size))
set_option maxHeartbeats 4000000 in
theorem NewC.of {l : Launch} {D : va_G} {cA : Nat → ClassId} {M : Mth} {d kc ks : Nat} {E : State → Prop} {as : List Value} {ws0 : va_W} {B : va_W → Prop} (own : String) (cc : ByteArray) (nL : Nat) (lv : List (Option Value)) (hM : M = (M.1, cc, nL, none)) (ho : M.1.cls = own) (hi : M.1.name = "<init>") (hp : plainName M.1.cls = true) (hc : ∀ a ∈ as, a.category = 1) (hn : as.length ≤ nL) (hlv : ent as nL = lv)
    (k : ∀ X : Mx, OKC (yN l D cA X d kc ks ws0 B) X own cc nL → (xt X).name = "<init>" → (xt X).sig.returnType = none → E (xs X) → (∀ (i : Nat) (q : Nat × va_E), ws0[i]? = some q → q.1 < (xs X).heap.size) → CC (yN l D cA X d kc ks ws0 B) X nL 0 lv [] ws0 0 0) : NewC l D cA M d kc ks E as ws0 B := by
  intro sz
  obtain ⟨y, cc', nL', ret'⟩ := M
  obtain ⟨rfl, rfl, rfl⟩ : cc' = cc ∧ nL' = nL ∧ ret' = none := by
    simp only [Prod.mk.injEq, true_and] at hM
    exact hM
  subst ho
  subst hlv
  refine Met.ofW (cc := cc') (maxL := nL') (ret := none) hp rfl ?_
  intro p e s m args below meth c s₁ Bd hml hv
  obtain ⟨rfl, hsz, hP, hK, hD, hE⟩ := hv
  subst hsz
  have hown : s.vm.findClass y.cls = some m.cls := findClass_of_methodNamed Bd.named
  have hts := atoms_spec (ws := wsM (y, cc', nL', none)) Bd.pre
  have hin : meth.name = y.name := (name_of_methodNamed Bd.named Bd.method).1
  have hX : OKC (yN l D cA (p, e, s, m, as.toArray, below, meth, c) d kc ks ws0 B) (p, e, s, m, as.toArray, below, meth, c) y.cls cc' nL' := ⟨Bd.exec, Bd.bytes, hml, hown, fun w hw => hts w (List.mem_cons_of_mem _ hw), Bd.notSynchronized, hK, fun q h => Or.inr h⟩
  have hl := lv_entry as (n := nL') (by rw [lg_sl_len as hc]; exact hn)
  rw [lg_entry_eq]
  exact k (p, e, s, m, as.toArray, below, meth, c) hX (hin.trans hi) Bd.returns hE (fun i q hq => (hP i q hq).lt) _ _ _ (LH_entry hc hl) hP hD.self va_S.rf
theorem C_vret {l : Launch} {D : va_G} {cA : Nat → ClassId} {X : Mx} {d kc ks nL pc : Nat} {ws0 ws : va_W} {B : va_W → Prop} {own : String} {cc : ByteArray} {lv : List (Option Value)} (hO : OKC (yN l D cA X d kc ks ws0 B) X own cc nL) (hr : (xt X).sig.returnType = none) (hd : decode cc pc = .ok (.return_, 1)) (hB : B ws) : CC (yN l D cA X d kc ks ws0 B) X nL pc lv [] ws kc ks := fun ls H locs hl hP hD hS =>
  W.vret hO.1 hO.2.1 hr (fun t ht hW => ⟨⟨ws, rfl, hB, by rw [ht]; exact hP, va_K.moved hW.alike hO.2.2.2.2.2.2.1, hD⟩, hS.F ht⟩) hS.2.2 hd hO.2.2.2.2.2.1
section CALLS
variable {Y : Yx} {X : Mx} {own : String} {cc : ByteArray} {nL pc kc ks : Nat} {lv : List (Option Value)} {st rest : List Value} {ws wr : va_W}
theorem C_initGo (hO : OKC Y X own cc nL) {ls : Array Slot} {H : Heap} {locs : List Loc} {mc ms q : Nat} {e0 : va_E} {B : va_W → Prop} {a : Array Value} {st0 : List Value} (hl : LH ls nL lv) (hP : va_P (yD Y) vwCl (wr ++ [(q, e0)]) H) (hD : va_D (yF Y) (wr ++ [(q, e0)])) (hS : va_S (yF Y) (xs X).heap H locs)
    (hr : va_Run (xp X) (yl Y) (xe X) (yR Y) (xs X) (xm X) (xa X) (xb X) (xt X) (xc X) H locs kc ks mc ms (F0 (xm X) pc ls st0) rest (va_Qv (S := va_W) B (fun u t => va_P (yD Y) vwCl u t.heap ∧ va_K (yD Y) vwCl (gTys (yA Y)) t ∧ va_D (va_A [(q, e0)] H.size) u) (va_A [(q, e0)] H.size) a) (va_A [(q, e0)] H.size))
    (k : ∀ u : va_W, B u → CC Y X nL (pc + 3) lv rest (wr ++ u) (kc + mc) (ks + ms)) : W (xp X) (yl Y) (xe X) (yR Y) (xs X) (xm X) (xa X) (xb X) (xt X) (xc X) H locs kc ks (yZ Y) (F0 (xm X) pc ls st0) := by
  have hF : ∀ x, va_A [(q, e0)] H.size x → yF Y x := by
    intro x hx
    rcases hx with ⟨k2, e2, h⟩ | h
    · have := hD.2 (wr.length + k2) _ (at_right h)
      exact this
    · exact hO.2.2.2.2.2.2.2 x (Nat.le_trans hS.1 h)
  refine va_callv hr hS (fun x _ h => hF x h) hF (fun u t H1 locs1 ht hvm hw hB hz1 hk1 hS1 => ?_)
  obtain ⟨hP1, -, hD1⟩ := hB
  rw [ht] at hP1
  obtain ⟨hP2, hD2⟩ := VJ hP hD hk1 hF hP1 hD1
  exact k u hw ls H1 locs1 hl hP2 hD2 hS1
theorem newBlind {D : va_G} {cA : Nat → ClassId} {sz : Nat} {as : List Value} {ws0 : va_W} {E : State → Prop} (hE : ∀ (a : Array Value) (U : State) g mk, E U → E (U.calling g mk a)) : FrameBlind (va_Pc as (fun U => U.heap.size = sz ∧ va_P D vwCl ws0 U.heap ∧ va_K D vwCl (gTys cA) U ∧ va_D (fun _ => True) ws0 ∧ E U)) := by
  intro a U g mk h
  obtain ⟨q0, q1, qP, qK, qD, qE⟩ := h
  exact ⟨q0, q1, qP, va_K.moved (u := U) (U := U.calling g mk a) (Vm.Alike.refl U.vm) qK, qD, hE a U g mk qE⟩
theorem C_initN (hO : OKC Y X own cc nL) {M : Mth} {d mc ms idx n q : Nat} {host : String} {e0 : va_E} {B : va_W → Prop} {As : List Value} (hd : decode cc pc = .ok (.invokespecial idx, 3)) (hM : NewC (yl Y) (yD Y) (yA Y) M d mc ms (fun _ => True) (.ref q :: As) [(q, e0)] B) (hl1 : va_Nw (.methodLinkNest own idx M.1 host) (xs X)) (hw : CallD M n) (hi : M.1.name = "<init>") (hr0 : M.2.2.2 = none) (hinst : Cond.instanceMethod M.1 ∈ AW) (hn : As.length = n) (hr : (rest.map fun v => v.category).sum ≤ 8) (hf : d + 1 ≤ (yR Y).frames) (hlo : 64 * d + 64 ≤ (yR Y).locals) (hc : kc + mc ≤ (yR Y).cells) (hs : ks + ms ≤ (yR Y).slots) (k : ∀ u : va_W, B u → CC Y X nL (pc + 3) lv rest (wr ++ u) (kc + mc) (ks + ms)) (hst : st = As.reverse ++ .ref q :: rest) : CC Y X nL pc lv st (wr ++ [(q, e0)]) kc ks := fun ls H locs hl hP hD hS => by
  obtain ⟨g1, g2, g3, g4⟩ := hw
  obtain ⟨y, by0, mL, rt⟩ := M
  obtain rfl : rt = none := hr0
  refine C_initGo hO hl hP hD hS (va_runIN (As := As) (rest := rest) ⟨hO.1, hO.2.1, hO.2.2.1, hO.2.2.2.1, hO.2.2.2.2.1⟩ (hM H.size) ⟨va_cnB n hO.2.2.2.2.1 (wsM_good g2) rfl rfl rfl hl1 (hO.2.2.2.2.1 _ g1) g3 ⟨hf, ?_⟩, hi, hO.2.2.2.2.1 _ hinst⟩ ⟨newBlind (fun _ _ _ _ h => h), fun U hU hW => ⟨rfl, by rw [hU], by rw [hU]; exact P_right hP, va_K.moved hW.alike hO.2.2.2.2.2.2.1, ⟨fun i j p x hi hj hpx => ?_, fun _ _ _ => trivial⟩, trivial⟩⟩ rfl hn hl.1 hst (lv_room hr) hd ⟨hc, hs⟩) k
  · show 8 + (mL + 11) + 64 * d ≤ (yR Y).locals
    have : mL ≤ 45 := g4
    omega
  · have := hD.1 (wr.length + i) (wr.length + j) p x (at_right hi) (at_right hj) hpx
    omega
theorem C_initP (hO : OKC Y X own cc nL) {M : Mth} {d mc ms idx n q : Nat} {e0 : va_E} {B : va_W → Prop} {E : State → Prop} {As : List Value} (hd : decode cc pc = .ok (.invokespecial idx, 3)) (hM : NewC (yl Y) (yD Y) (yA Y) M d mc ms E (.ref q :: As) [(q, e0)] B) (hEb : ∀ (a : Array Value) (U : State) g mk, E U → E (U.calling g mk a)) (hE : ∀ (U : State) (H : Heap) (locs : List Loc), va_P (yD Y) vwCl (wr ++ [(q, e0)]) H → va_D (yF Y) (wr ++ [(q, e0)]) → va_S (yF Y) (xs X).heap H locs → U.heap = H → (xs X).WarmedH U.vm → E U) (hlk : Cond.methodLink own idx M.1 ∈ AW) (hw : CallD M n) (hi : M.1.name = "<init>") (hr0 : M.2.2.2 = none) (hinst : Cond.instanceMethod M.1 ∈ AW) (hn : As.length = n) (hr : (rest.map fun v => v.category).sum ≤ 8) (hf : d + 1 ≤ (yR Y).frames) (hlo : 64 * d + 64 ≤ (yR Y).locals) (hc : kc + mc ≤ (yR Y).cells) (hs : ks + ms ≤ (yR Y).slots) (k : ∀ u : va_W, B u → CC Y X nL (pc + 3) lv rest (wr ++ u) (kc + mc) (ks + ms)) (hst : st = As.reverse ++ .ref q :: rest) : CC Y X nL pc lv st (wr ++ [(q, e0)]) kc ks := fun ls H locs hl hP hD hS => by
  obtain ⟨g1, g2, g3, g4⟩ := hw
  obtain ⟨y, by0, mL, rt⟩ := M
  obtain rfl : rt = none := hr0
  refine C_initGo hO hl hP hD hS (va_runI (As := As) (rest := rest) ⟨hO.1, hO.2.1, hO.2.2.1, hO.2.2.2.1, hO.2.2.2.2.1⟩ (hM H.size) ⟨callB_of n hO.2.2.2.2.1 (wsM_good g2) rfl rfl rfl (hO.2.2.2.2.1 _ g1) (hO.2.2.2.2.1 _ hlk) g3 ⟨hf, ?_⟩, hi, hO.2.2.2.2.1 _ hinst⟩ ⟨newBlind hEb, fun U hU hW => ⟨rfl, by rw [hU], by rw [hU]; exact P_right hP, va_K.moved hW.alike hO.2.2.2.2.2.2.1, ⟨fun i j p x hi hj hpx => ?_, fun _ _ _ => trivial⟩, hE U H locs hP hD hS hU hW⟩⟩ rfl hn hl.1 hst (lv_room hr) hd ⟨hc, hs⟩) k
  · show 8 + (mL + 11) + 64 * d ≤ (yR Y).locals
    have : mL ≤ 45 := g4
    omega
  · have := hD.1 (wr.length + i) (wr.length + j) p x (at_right hi) (at_right hj) hpx
    omega
abbrev mkG (Y : Yx) (ad : Nat → Nat) (S : List Sh) (E : State → Prop) : Gx := (yl Y, yD Y, yA Y, ad, S, E)
/-- what a world's calls want to know of the caller -/
def WIN (Y : Yx) (X : Mx) (ad : Nat → Nat) (S : List Sh) (E : State → Prop) : Prop := GOK (mkG Y ad S E) ∧ E (xs X) ∧ ∀ q : Nat, q < (xs X).heap.size → ¬ gA (mkG Y ad S E) q → ¬ yF Y q
theorem C_inv {Γad : Nat → Nat} {S : List Sh} {E : State → Prop} (hO : OKC Y X own cc nL) (hW0 : WIN Y X Γad S E) {w : Wd} {H : Heap} {locs : List Loc} {U : State} (hP : va_P (yD Y) vwCl (gW (mkG Y Γad S E) w) H) (hS : va_S (yF Y) (xs X).heap H locs) (hU : U.heap = H) (hW : (xs X).WarmedH U.vm) : Inv (mkG Y Γad S E) w U :=
  ⟨by rw [hU]; exact hP, va_K.moved hW.alike hO.2.2.2.2.2.2.1, hW0.1.2.2 (xs X) U hW0.2.1 hW (by rw [hU]; exact hS.1) (fun q h1 h2 => by rw [hU]; exact hS.2.1 q h1 (hW0.2.2 q h1 h2))⟩
theorem gA_of {ad : Nat → Nat} {S : List Sh} {E : State → Prop} {w : Wd} {q : Nat} (h : gA (mkG Y ad S E) q) : ∃ (i : Nat) (e : va_E), (gW (mkG Y ad S E) w)[i]? = some (q, e) := by
  obtain ⟨i, hi, rfl⟩ := h
  exact ⟨i, _, gW_get (List.getElem?_eq_getElem hi)⟩
theorem C_goR {ad : Nat → Nat} {S : List Sh} {E : State → Prop} {w : Wd} {H : Heap} {ls : Array Slot} {locs : List Loc} {st0 : List Value} {a : Array Value} {Q' : Option Value → Wd → Prop} (hl : LH ls nL lv) (hP : va_P (yD Y) vwCl (wr ++ gW (mkG Y ad S E) w) H) (hD : va_D (yF Y) (wr ++ gW (mkG Y ad S E) w)) (hS : va_S (yF Y) (xs X).heap H locs)
    (hr : va_Run (xp X) (yl Y) (xe X) (yR Y) (xs X) (xm X) (xa X) (xb X) (xt X) (xc X) H locs kc ks 0 0 (F0 (xm X) pc ls st0) rest (QG (mkG Y ad S E) Q' a) (gA (mkG Y ad S E)))
    (k : ∀ r w', Q' r w' → CC Y X nL (pc + 3) lv (r.toList ++ rest) (wr ++ gW (mkG Y ad S E) w') kc ks) : W (xp X) (yl Y) (xe X) (yR Y) (xs X) (xm X) (xa X) (xb X) (xt X) (xc X) H locs kc ks (yZ Y) (F0 (xm X) pc ls st0) := by
  intro T hT Z
  obtain ⟨v, st₀, t, T', L, h0, X', hL, e1, e2, ⟨⟨r, w', hv, hq, hP', -⟩, hz, hk⟩, stp⟩ := hr T hT Z
  cases hv
  rw [h0] at hz hk
  have hA : ∀ q, gA (mkG Y ad S E) q → yF Y q := by
    intro q h
    obtain ⟨i, e0, hi⟩ := gA_of (w := w) h
    exact hD.2 _ _ (at_right hi)
  have hD2 : va_D (yF Y) (wr ++ gW (mkG Y ad S E) w') := D_map (by rw [List.map_append, List.map_append]; congr 1; exact cels_fst _ 0) hD
  obtain ⟨t2, a1, b1⟩ := k v w' hq ls T'.heap (locs ++ L) hl (va_P.app (fun j q hj => by
      refine (hP j q (at_left hj)).kept ?_
      rw [e1]
      refine hk q.1 (hP j q (at_left hj)).lt (fun h => ?_)
      obtain ⟨i, e0, hi⟩ := gA_of (w := w) h
      have := hD.1 j (wr.length + i) q _ (at_left hj) (at_right hi) rfl
      have := (List.getElem?_eq_some_iff.mp hj).1
      omega) (by rw [e1]; exact hP')) hD2
    ⟨Nat.le_trans hS.1 (by rw [e1]; exact hz), fun q h1 h2 => by rw [e1, hk q (Nat.lt_of_lt_of_le h1 hS.1) (fun z => h2 (hA q z))]; exact hS.2.1 q h1 h2, fun q hq => by
      rcases List.mem_append.mp hq with h | h
      · exact hS.2.2 q h
      · exact hA _ (hL q h)⟩ T' rfl X'
  exact ⟨t2, stp t2 a1, b1⟩
theorem C_goL {ad : Nat → Nat} {S : List Sh} {E : State → Prop} {w : Wd} {H : Heap} {ls : Array Slot} {locs : List Loc} {st0 : List Value} {a : Array Value} {Q' : Option Value → Wd → Prop} (hl : LH ls nL lv) (hP : va_P (yD Y) vwCl (gW (mkG Y ad S E) w ++ wr) H) (hD : va_D (yF Y) (gW (mkG Y ad S E) w ++ wr)) (hS : va_S (yF Y) (xs X).heap H locs)
    (hr : va_Run (xp X) (yl Y) (xe X) (yR Y) (xs X) (xm X) (xa X) (xb X) (xt X) (xc X) H locs kc ks 0 0 (F0 (xm X) pc ls st0) rest (QG (mkG Y ad S E) Q' a) (gA (mkG Y ad S E)))
    (k : ∀ r w', Q' r w' → CC Y X nL (pc + 3) lv (r.toList ++ rest) (gW (mkG Y ad S E) w' ++ wr) kc ks) : W (xp X) (yl Y) (xe X) (yR Y) (xs X) (xm X) (xa X) (xb X) (xt X) (xc X) H locs kc ks (yZ Y) (F0 (xm X) pc ls st0) := by
  intro T hT Z
  obtain ⟨v, st₀, t, T', L, h0, X', hL, e1, e2, ⟨⟨r, w', hv, hq, hP', -⟩, hz, hk⟩, stp⟩ := hr T hT Z
  cases hv
  rw [h0] at hz hk
  have hA : ∀ q, gA (mkG Y ad S E) q → yF Y q := by
    intro q h
    obtain ⟨i, e0, hi⟩ := gA_of (w := w) h
    exact hD.2 _ _ (at_left hi)
  have hD2 : va_D (yF Y) (gW (mkG Y ad S E) w' ++ wr) := D_map (by rw [List.map_append, List.map_append]; congr 1; exact cels_fst _ 0) hD
  obtain ⟨t2, a1, b1⟩ := k v w' hq ls T'.heap (locs ++ L) hl (va_P.app (by rw [e1]; exact hP') (fun j q hj => by
      refine (hP _ q (at_right hj)).kept ?_
      rw [e1]
      refine hk q.1 (hP _ q (at_right hj)).lt (fun h => ?_)
      obtain ⟨i, e0, hi⟩ := gA_of (w := w) h
      have := hD.1 i _ _ q (at_left hi) (at_right hj) rfl
      have := (List.getElem?_eq_some_iff.mp hi).1
      omega)) hD2
    ⟨Nat.le_trans hS.1 (by rw [e1]; exact hz), fun q h1 h2 => by rw [e1, hk q (Nat.lt_of_lt_of_le h1 hS.1) (fun z => h2 (hA q z))]; exact hS.2.1 q h1 h2, fun q hq => by
      rcases List.mem_append.mp hq with h | h
      · exact hS.2.2 q h
      · exact hA _ (hL q h)⟩ T' rfl X'
  exact ⟨t2, stp t2 a1, b1⟩
theorem C_callB {M : Mth} {n idx d : Nat} (hO : OKC Y X own cc nL) (hw : CallD M n) (hl : Cond.methodLink own idx M.1 ∈ AW) (hf : d + 1 ≤ (yR Y).frames) (hlo : 64 * d + 64 ≤ (yR Y).locals) : CallB (yR Y) (xs X) (xa X) own idx M.1 M.2.1 M.2.2.1 M.2.2.2 (wsM M) (rmd d) 0 0 n := by
  obtain ⟨h1, h2, h3, h4⟩ := hw
  refine callB_of n hO.2.2.2.2.1 (wsM_good h2) rfl rfl rfl (hO.2.2.2.2.1 _ h1) (hO.2.2.2.2.1 _ hl) h3 ⟨hf, ?_⟩
  show 8 + (M.2.2.1 + 11) + 64 * d ≤ (yR Y).locals
  omega
theorem C_conR (hO : OKC Y X own cc nL) {ad : Nat → Nat} {S : List Sh} {E : State → Prop} (hW0 : WIN Y X ad S E) {w : Wd} {M : Mth} {idx n i ci N d : Nat} {fks : List Nat} {C : String} {T : u_T} {As : List Value} {K : Option Value → Wd → Prop} (hd : decode cc pc = .ok (.invokevirtual idx, 3)) (h : Con (mkG Y ad S E) d M (.ref (ad i) :: As) w K) (hw : CallV own C idx M n) (hs : S[i]? = some (.inr (ci, fks))) (hc : vwCl[ci]? = some (C, T, N)) (hn : As.length = n) (hr : (rest.map fun v => v.category).sum ≤ 8) (hf : d + 1 ≤ (yR Y).frames) (hlo : 64 * d + 64 ≤ (yR Y).locals) (hkc : kc ≤ (yR Y).cells) (hks : ks ≤ (yR Y).slots) (k : ∀ r w', K r w' → CC Y X nL (pc + 3) lv (r.toList ++ rest) (wr ++ gW (mkG Y ad S E) w') kc ks) (hst : st = As.reverse ++ .ref (ad i) :: rest) : CC Y X nL pc lv st (wr ++ gW (mkG Y ad S E) w) kc ks := fun ls H locs hl hP hD hS => by
  obtain ⟨h1, h2, h3, h4⟩ := hw
  exact C_goR hl hP hD hS (va_runV (As := As) (rest := rest) ⟨hO.1, hO.2.1, hO.2.2.1, hO.2.2.2.1, hO.2.2.2.2.1⟩ h ⟨C_callB hO h4 h1 hf hlo, hO.2.2.2.2.1 _ h2, hO.2.2.2.2.1 _ h3⟩ ⟨Inv_blind hW0.1, va_recv hO.2.2.2.2.2.2.1 (P_right hP) hc (gW_get (Γ := mkG Y ad S E) hs), fun U hU hW => ⟨rfl, C_inv hO hW0 (P_right hP) hS hU hW⟩⟩ rfl hn hl.1 hst (lv_room hr) hd ⟨hkc, hks⟩) k
theorem C_conL (hO : OKC Y X own cc nL) {ad : Nat → Nat} {S : List Sh} {E : State → Prop} (hW0 : WIN Y X ad S E) {w : Wd} {M : Mth} {idx n i ci N d : Nat} {fks : List Nat} {C : String} {T : u_T} {As : List Value} {K : Option Value → Wd → Prop} (hd : decode cc pc = .ok (.invokevirtual idx, 3)) (h : Con (mkG Y ad S E) d M (.ref (ad i) :: As) w K) (hw : CallV own C idx M n) (hs : S[i]? = some (.inr (ci, fks))) (hc : vwCl[ci]? = some (C, T, N)) (hn : As.length = n) (hr : (rest.map fun v => v.category).sum ≤ 8) (hf : d + 1 ≤ (yR Y).frames) (hlo : 64 * d + 64 ≤ (yR Y).locals) (hkc : kc ≤ (yR Y).cells) (hks : ks ≤ (yR Y).slots) (k : ∀ r w', K r w' → CC Y X nL (pc + 3) lv (r.toList ++ rest) (gW (mkG Y ad S E) w' ++ wr) kc ks) (hst : st = As.reverse ++ .ref (ad i) :: rest) : CC Y X nL pc lv st (gW (mkG Y ad S E) w ++ wr) kc ks := fun ls H locs hl hP hD hS => by
  obtain ⟨h1, h2, h3, h4⟩ := hw
  exact C_goL hl hP hD hS (va_runV (As := As) (rest := rest) ⟨hO.1, hO.2.1, hO.2.2.1, hO.2.2.2.1, hO.2.2.2.2.1⟩ h ⟨C_callB hO h4 h1 hf hlo, hO.2.2.2.2.1 _ h2, hO.2.2.2.2.1 _ h3⟩ ⟨Inv_blind hW0.1, va_recv hO.2.2.2.2.2.2.1 (P_left hP) hc (gW_get (Γ := mkG Y ad S E) hs), fun U hU hW => ⟨rfl, C_inv hO hW0 (P_left hP) hS hU hW⟩⟩ rfl hn hl.1 hst (lv_room hr) hd ⟨hkc, hks⟩) k
/-- a call of a text's own method, in a world that is all there is -/
theorem C_conT (hO : OKC Y X own cc nL) {ad : Nat → Nat} {S : List Sh} {E : State → Prop} (hW0 : WIN Y X ad S E) (hX : EXF ad (gA (mkG Y ad S E)) (xs X)) {w : Wd} {M : Mth} {idx n kx d : Nat} {As : List Value} {K : Option Value → Wd → Prop} (hd : decode cc pc = .ok (.invokevirtual idx, 3)) (hk : kx < 3) (h : Con (mkG Y ad S E) d M (.ref (ad (100 + kx)) :: As) w K) (hw : CallV own "java/lang/String" idx M n) (hn : As.length = n) (hr : (rest.map fun v => v.category).sum ≤ 8) (hf : d + 1 ≤ (yR Y).frames) (hlo : 64 * d + 64 ≤ (yR Y).locals) (hkc : kc ≤ (yR Y).cells) (hks : ks ≤ (yR Y).slots) (k : ∀ r w', K r w' → CC Y X nL (pc + 3) lv (r.toList ++ rest) (wr ++ gW (mkG Y ad S E) w') kc ks) (hst : st = As.reverse ++ .ref (ad (100 + kx)) :: rest) : CC Y X nL pc lv st (wr ++ gW (mkG Y ad S E) w) kc ks := fun ls H locs hl hP hD hS => by
  obtain ⟨h1, h2, h3, h4⟩ := hw
  have hS2 : va_S (gA (mkG Y ad S E)) (xs X).heap H [] := ⟨hS.1, fun q a b => hS.2.1 q a (hW0.2.2 q a b), fun _ z => by cases z⟩
  exact C_goR hl hP hD hS (va_runV (As := As) (rest := rest) ⟨hO.1, hO.2.1, hO.2.2.1, hO.2.2.2.1, hO.2.2.2.2.1⟩ h ⟨C_callB hO h4 h1 hf hlo, hO.2.2.2.2.1 _ h2, hO.2.2.2.2.1 _ h3⟩ ⟨Inv_blind hW0.1, vk_recv (i := kx) hX.2.2.2.2.2.1 hk hS2, fun U hU hW => ⟨rfl, C_inv hO hW0 (P_right hP) hS hU hW⟩⟩ rfl hn hl.1 hst (lv_room hr) hd ⟨hkc, hks⟩) k
theorem C_ldcS (hO : OKC Y X own cc nL) {ix a : Nat} {tx : String} (hd : decode cc pc = .ok (.ldc ix, 2)) (hX : vk_R own ix tx a (xs X)) (k : CC Y X nL (pc + 2) lv (.ref a :: st) ws kc ks) : CC Y X nL pc lv st ws kc ks := fun ls H locs hl hP hD hS => va_ldcS hO.1 hO.2.1 hO.2.2.2.1 hX hd (k ls H locs hl hP hD hS)
end CALLS
