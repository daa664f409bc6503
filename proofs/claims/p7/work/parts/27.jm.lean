/-! the model's world, whatever the rest hangs on -/
abbrev JM (w : Wd) : Prop := IM (kM w) w
theorem JM.of {κ : Ky} {w : Wd} (i : IM κ w) : JM w := ⟨rfl, i.2⟩
theorem JM.re {w w' : Wd} (i : JM w) (hn : numM w') (e9 : w' 0 9 = w 0 9) (e13 : w' 0 13 = w 0 13) (e6 : w' 6 = w 6) (e7 : w' 7 = w 7) (e8 : w' 8 = w 8) (hs : szM w') (hu : usM w') : JM w' := by
  refine ⟨rfl, hn, ?_, hs, hu⟩
  have p := i.2.2.1
  unfold partM at *
  rw [e9, e13, e6, e7, e8]
  exact p
theorem JM.slot {w : Wd} {c s : Nat} {v : Int32} (hc : critM c s = false) (i : JM w) : JM (wset w c s v) := JM.of (IM.slot hc i)
theorem JM.cell {w : Wd} {c s : Nat} {v : Int32} (hc : c ≠ 0 ∧ [1, 5, 6, 7, 8, 15, 18].contains c = false) (i : JM w) : JM (wset w c s v) := JM.of (IM.cell hc i)
theorem sz0 {w : Wd} {c s : Nat} {v : Int32} (hc : c ≠ 18) (h : szM w) : szM (wset w c s v) := fun j hj => by
  rw [ws_col (Ne.symm hc)]
  exact h j hj
theorem us0 {w : Wd} {c s : Nat} {v : Int32} (hc : c ≠ 1 ∧ c ≠ 15) (h : usM w) : usM (wset w c s v) := fun j => by
  rw [ws_col (Ne.symm hc.1), ws_col (Ne.symm hc.2)]
  exact h j
theorem nm0 {w : Wd} {c s : Nat} {v : Int32} (hc : c ≠ 0) (h : numM w) : numM (wset w c s v) := by
  unfold numM at *
  simp only [ws_col (w := w) (c := c) (j := s) (v := v) (Ne.symm hc)]
  exact h
/-- one of the object's own numbers -/
theorem JM.num0 {w : Wd} {s : Nat} {v : Int32} (hs : s ≠ 9 ∧ s ≠ 13) (hn : numM (wset w 0 s v)) (i : JM w) : JM (wset w 0 s v) := i.re hn (ws_row (Ne.symm hs.1)) (ws_row (Ne.symm hs.2)) (wset_off _ _ _ _ _ (by decide)) (wset_off _ _ _ _ _ (by decide)) (wset_off _ _ _ _ _ (by decide)) (sz0 (by decide) i.2.2.2.1) (us0 (by decide) i.2.2.2.2)
theorem JM.m2 {w : Wd} {v : Int32} (h : 0 ≤ v.toInt ∧ v.toInt ≤ 5) (i : JM w) : JM (wset w 0 2 v) := i.num0 (by decide) (by
  have n := i.num
  unfold numM
  simp only [ws_hit, ws_row (w := w) (c := 0) (j := 2) (a := 0) (v := v) (b := 33) (by decide), ws_row (w := w) (c := 0) (j := 2) (a := 0) (v := v) (b := 7) (by decide), ws_row (w := w) (c := 0) (j := 2) (a := 0) (v := v) (b := 6) (by decide), ws_row (w := w) (c := 0) (j := 2) (a := 0) (v := v) (b := 9) (by decide), ws_row (w := w) (c := 0) (j := 2) (a := 0) (v := v) (b := 35) (by decide), ws_row (w := w) (c := 0) (j := 2) (a := 0) (v := v) (b := 13) (by decide)]
  omega)
theorem JM.m33 {w : Wd} {v : Int32} (h : 0 ≤ v.toInt ∧ v.toInt ≤ 5) (i : JM w) : JM (wset w 0 33 v) := i.num0 (by decide) (by
  have n := i.num
  unfold numM
  simp only [ws_hit, ws_row (w := w) (c := 0) (j := 33) (a := 0) (v := v) (b := 2) (by decide), ws_row (w := w) (c := 0) (j := 33) (a := 0) (v := v) (b := 7) (by decide), ws_row (w := w) (c := 0) (j := 33) (a := 0) (v := v) (b := 6) (by decide), ws_row (w := w) (c := 0) (j := 33) (a := 0) (v := v) (b := 9) (by decide), ws_row (w := w) (c := 0) (j := 33) (a := 0) (v := v) (b := 35) (by decide), ws_row (w := w) (c := 0) (j := 33) (a := 0) (v := v) (b := 13) (by decide)]
  omega)
theorem JM.m7 {w : Wd} {v : Int32} (h : 0 ≤ v.toInt ∧ v.toInt ≤ 160) (i : JM w) : JM (wset w 0 7 v) := i.num0 (by decide) (by
  have n := i.num
  unfold numM
  simp only [ws_hit, ws_row (w := w) (c := 0) (j := 7) (a := 0) (v := v) (b := 2) (by decide), ws_row (w := w) (c := 0) (j := 7) (a := 0) (v := v) (b := 33) (by decide), ws_row (w := w) (c := 0) (j := 7) (a := 0) (v := v) (b := 6) (by decide), ws_row (w := w) (c := 0) (j := 7) (a := 0) (v := v) (b := 9) (by decide), ws_row (w := w) (c := 0) (j := 7) (a := 0) (v := v) (b := 35) (by decide), ws_row (w := w) (c := 0) (j := 7) (a := 0) (v := v) (b := 13) (by decide)]
  omega)
theorem JM.m6 {w : Wd} {v : Int32} (h : 0 ≤ v.toInt ∧ v.toInt < (w 0 9).toInt) (i : JM w) : JM (wset w 0 6 v) := i.num0 (by decide) (by
  have n := i.num
  unfold numM
  simp only [ws_hit, ws_row (w := w) (c := 0) (j := 6) (a := 0) (v := v) (b := 2) (by decide), ws_row (w := w) (c := 0) (j := 6) (a := 0) (v := v) (b := 33) (by decide), ws_row (w := w) (c := 0) (j := 6) (a := 0) (v := v) (b := 7) (by decide), ws_row (w := w) (c := 0) (j := 6) (a := 0) (v := v) (b := 9) (by decide), ws_row (w := w) (c := 0) (j := 6) (a := 0) (v := v) (b := 35) (by decide), ws_row (w := w) (c := 0) (j := 6) (a := 0) (v := v) (b := 13) (by decide)]
  omega)
theorem JM.m35 {w : Wd} {v : Int32} (h : 0 ≤ v.toInt ∧ v.toInt < (w 0 9).toInt) (i : JM w) : JM (wset w 0 35 v) := i.num0 (by decide) (by
  have n := i.num
  unfold numM
  simp only [ws_hit, ws_row (w := w) (c := 0) (j := 35) (a := 0) (v := v) (b := 2) (by decide), ws_row (w := w) (c := 0) (j := 35) (a := 0) (v := v) (b := 33) (by decide), ws_row (w := w) (c := 0) (j := 35) (a := 0) (v := v) (b := 7) (by decide), ws_row (w := w) (c := 0) (j := 35) (a := 0) (v := v) (b := 9) (by decide), ws_row (w := w) (c := 0) (j := 35) (a := 0) (v := v) (b := 6) (by decide), ws_row (w := w) (c := 0) (j := 35) (a := 0) (v := v) (b := 13) (by decide)]
  omega)
theorem JM.m32 {w : Wd} {v : Int32} (i : JM w) : JM (wset w 0 32 v) := i.num0 (by decide) (by
  have n := i.num
  unfold numM
  simp only [ws_row (w := w) (c := 0) (j := 32) (a := 0) (v := v) (b := 2) (by decide), ws_row (w := w) (c := 0) (j := 32) (a := 0) (v := v) (b := 33) (by decide), ws_row (w := w) (c := 0) (j := 32) (a := 0) (v := v) (b := 7) (by decide), ws_row (w := w) (c := 0) (j := 32) (a := 0) (v := v) (b := 9) (by decide), ws_row (w := w) (c := 0) (j := 32) (a := 0) (v := v) (b := 6) (by decide), ws_row (w := w) (c := 0) (j := 32) (a := 0) (v := v) (b := 35) (by decide), ws_row (w := w) (c := 0) (j := 32) (a := 0) (v := v) (b := 13) (by decide)]
  exact n)
theorem JM.tape {w : Wd} {j : Nat} {v : Int32} (i : JM w) : JM (wset w 5 j v) := i.re (nm0 (by decide) i.2.1) (ws_col (by decide)) (ws_col (by decide)) (wset_off _ _ _ _ _ (by decide)) (wset_off _ _ _ _ _ (by decide)) (wset_off _ _ _ _ _ (by decide)) (sz0 (by decide) i.2.2.2.1) (us0 (by decide) i.2.2.2.2)
theorem JM.size {w : Wd} {j : Nat} {v : Int32} (h : 0 ≤ v.toInt ∧ v.toInt ≤ 40) (i : JM w) : JM (wset w 18 j v) := i.re (nm0 (by decide) i.2.1) (ws_col (by decide)) (ws_col (by decide)) (wset_off _ _ _ _ _ (by decide)) (wset_off _ _ _ _ _ (by decide)) (wset_off _ _ _ _ _ (by decide)) (fun a ha => by
  by_cases e : a = j
  · rw [e, ws_hit]
    exact h
  · rw [ws_row e]
    exact i.2.2.2.1 a ha) (us0 (by decide) i.2.2.2.2)
theorem JM.used {w : Wd} {j : Nat} {v : Int32} (h : isZ v) (i : JM w) : JM (wset w 1 j v) := i.re (nm0 (by decide) i.2.1) (ws_col (by decide)) (ws_col (by decide)) (wset_off _ _ _ _ _ (by decide)) (wset_off _ _ _ _ _ (by decide)) (wset_off _ _ _ _ _ (by decide)) (sz0 (by decide) i.2.2.2.1) (fun a => ⟨by
  by_cases e : a = j
  · rw [e, ws_hit]
    exact h
  · rw [ws_row e]
    exact (i.2.2.2.2 a).1, by rw [ws_col (by decide)]; exact (i.2.2.2.2 a).2⟩)
theorem JM.oldUsed {w : Wd} {j : Nat} {v : Int32} (h : isZ v) (i : JM w) : JM (wset w 15 j v) := i.re (nm0 (by decide) i.2.1) (ws_col (by decide)) (ws_col (by decide)) (wset_off _ _ _ _ _ (by decide)) (wset_off _ _ _ _ _ (by decide)) (wset_off _ _ _ _ _ (by decide)) (sz0 (by decide) i.2.2.2.1) (fun a => ⟨by rw [ws_col (by decide)]; exact (i.2.2.2.2 a).1, by
  by_cases e : a = j
  · rw [e, ws_hit]
    exact h
  · rw [ws_row e]
    exact (i.2.2.2.2 a).2⟩)
