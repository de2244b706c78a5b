/-! the start's world -/
def zS0 (ln : Nat) (xs : Nat → Int32) : ZZ := fun a k => if a = 1000000 ∧ 0 ≤ k ∧ k < (ln : Int) then (xs k.toNat).toInt else 0
theorem zS0_Zr (ln : Nat) (xs : Nat → Int32) : Zr (zS0 ln xs) 0 := fun a _ h k => if_neg (fun q => by omega)
theorem zS0_ok (ln : Nat) (xs : Nat → Int32) : okz (zS0 ln xs) := by
  intro a j _
  unfold zS0
  split
  · exact inR_of _
  · exact ⟨by decide, by decide⟩
theorem zST_mem {ln k c n : Nat} (hk : 1000000 < k) (hc : c ≠ 0) (h : zSH ln k = (c, n)) : (k, c, n) ∈ zSTl := by
  unfold zSH at h
  rw [if_neg (by omega), if_neg (by omega)] at h
  cases hl : zSTl.lookup k with
  | none =>
    rw [hl] at h
    exact absurd (congrArg Prod.fst h).symm hc
  | some q =>
    rw [hl] at h
    have h' : q = (c, n) := h
    subst h'
    obtain ⟨l1, l2, h5, -⟩ := List.lookup_eq_some_iff.mp hl
    rw [h5]
    simp
theorem zST_30 : ∀ e ∈ zSTl, e.2.1 = 30 → e = (1000001, 30, 5) ∨ e = (1000002, 30, 15) ∨ e = (1000003, 30, 15) := by decide +kernel
theorem zST_32 : ∀ e ∈ zSTl, e.2.1 = 32 → e ∈ ([(1000200, 32, 5), (1000201, 32, 4), (1000202, 32, 7), (1000203, 32, 6), (1000204, 32, 6), (1000227, 32, 5), (1000228, 32, 4), (1000229, 32, 7), (1000230, 32, 6), (1000231, 32, 6)] : List (Nat × Nat × Nat)) := by decide +kernel
theorem zST_31 : ∀ e ∈ zSTl, e.2.1 = 31 → e ∈ ([(1000100, 31, 0), (1000101, 31, 0), (1000102, 31, 0), (1000103, 31, 0), (1000104, 31, 0), (1000127, 31, 0), (1000128, 31, 0), (1000129, 31, 0), (1000130, 31, 0), (1000131, 31, 0)] : List (Nat × Nat × Nat)) := by decide +kernel
theorem xin : ∀ (c : Nat) (r : vw_C), xcl[c]? = some r → Cond.instantiable r.1 r.2.2 ∈ lw_tbl :=
  xcl_cases (P := fun _ r => Cond.instantiable r.1 r.2.2 ∈ lw_tbl) (tw1 (List.mem_of_getElem? (i := 33) (by decide +kernel))) (tw1 (List.mem_of_getElem? (i := 56) (by decide +kernel))) (tw1 (List.mem_of_getElem? (i := 164) (by decide +kernel))) (tw1 (List.mem_of_getElem? (i := 134) (by decide +kernel))) (tw1 (List.mem_of_getElem? (i := 62) (by decide +kernel))) (tw1 (List.mem_of_getElem? (i := 25) (by decide +kernel))) (tw5 (List.mem_of_getElem? (i := 176) (by decide +kernel)))
section XS
variable {args : Array Value} {s : State}
theorem x_classes (hts : ∀ w ∈ lw_tbl, w.before args s = true) : ∃ (dC : Nat → ClassId) (dI : Nat → Nat → Nat), ∀ (c : Nat) (q : vw_C), xcl[c]? = some q → u_Kn s q.1 q.2.1 q.2.2 (dC c) (dI c) := by
  have h0 : ∀ c : Nat, ∃ p : ClassId × (Nat → Nat), ∀ q : vw_C, xcl[c]? = some q → u_Kn s q.1 q.2.1 q.2.2 p.1 p.2 := by
    intro c
    cases h : xcl[c]? with
    | none => exact ⟨((0 : Nat), fun _ => 0), fun q hq => by cases hq⟩
    | some q =>
      obtain ⟨cC, iS, hk⟩ := u_known (ws := lw_tbl) (C := q.1) (T := q.2.1) (N := q.2.2) (n := q.2.2) hts (fun w hw => (List.mem_filter.mp (xcl_ws c q h w hw)).1) (hts _ (xin c q h))
      exact ⟨(cC, iS), fun q' hq' => by cases hq'; exact hk⟩
  obtain ⟨f, hf⟩ := Classical.axiomOfChoice h0
  exact ⟨fun c => (f c).1, fun c => (f c).2, fun c q hq => hf c q hq⟩
theorem x_prim {ty : FieldType} (hts : ∀ w ∈ lw_tbl, w.before args s = true) (h : Cond.arrayClass ty ∈ lw_tbl) : ∃ cA : ClassId, ArrOfT s cA ty ∧ s.vm.findClass ("[" ++ ty.toString) = some cA := by
  obtain ⟨cA, kA, comp, h1, h2, h3⟩ := Cond.arrayClass_spec (args := args) (first := s) (o := none) (s := s) (idx := []) (hts _ h)
  exact ⟨cA, fun n z => ⟨(fun k h => by cases h), kA, h2, comp, h3⟩, h1⟩
theorem x_arrays (hts : ∀ w ∈ lw_tbl, w.before args s = true) : ∃ gA : Nat → ClassId, ∀ t, 20 ≤ t → t < 24 → ArrOfT s (gA t) (xty t) ∧ va_RA s (gA t) (xty t) := by
  obtain ⟨c0, a0, b0⟩ := x_prim hts tq54
  obtain ⟨c1, a1, b1⟩ := x_prim hts tq1672
  obtain ⟨c2, a2, b2⟩ := x_prim hts tq1673
  obtain ⟨comp, c3, k, h1, -, h3, h4, h5⟩ := Cond.arrayOver_spec (args := args) (first := s) (o := none) (s := s) (idx := []) (hts _ tq170)
  refine ⟨fun t => if t = 20 then c0 else if t = 21 then c1 else if t = 22 then c2 else c3, fun t ha hb => ?_⟩
  have ht : t = 20 ∨ t = 21 ∨ t = 22 ∨ t = 23 := by omega
  rcases ht with rfl | rfl | rfl | rfl
  · exact ⟨a0, b0⟩
  · exact ⟨a1, b1⟩
  · exact ⟨a2, b2⟩
  · exact ⟨fun n z => ⟨(fun k h => by cases h), k, h3, comp, h4⟩, k, comp, h3, h4, h1, h5⟩
theorem x_tabs {w : Cond} (hx : xnw w = true) : w.onTables = true := by
  cases w <;> first | (cases hx; done) | rfl
theorem x_start {ln b : Nat} {xs : Nat → Int32} (ha : args = #[.ref b]) (hts : ∀ w ∈ lw_tbl, w.before args s = true) (hgv : (Jvm.Cond.and given_1 narrow_1).before args s = true) (hX : va_X b ln xs s s.heap) (hbl : b < s.heap.size) :
    ∃ g : xG, gB g = s.heap.size ∧ gV g 1000000 = .ref b ∧ gS g = zSH ln ∧ gH g = zCTC (zS0 ln xs) ∧ xSF g s s.heap := by
  obtain ⟨dC, dI, hC⟩ := x_classes hts
  obtain ⟨gA, hAr⟩ := x_arrays hts
  have hN : ∀ w ∈ nlist, w.before args s = true := flat_of_before _ hgv
  have hA : ∀ a : Nat, a < s.heap.size → ¬ (fun q : Nat => s.heap.size ≤ q) a := fun a h => Nat.not_le.mpr h
  obtain ⟨t1000001, e1000001, T1000001⟩ := st_arr (A := fun q : Nat => s.heap.size ≤ q) (fun w hw => hN w (sub_mem nl_NUMBERS w hw)) (by decide) hA
  obtain ⟨t1000002, e1000002, T1000002⟩ := st_arr (A := fun q : Nat => s.heap.size ≤ q) (fun w hw => hN w (sub_mem nl_LEAST w hw)) (by decide) hA
  obtain ⟨t1000003, e1000003, T1000003⟩ := st_arr (A := fun q : Nat => s.heap.size ≤ q) (fun w hw => hN w (sub_mem nl_GREATEST w hw)) (by decide) hA
  obtain ⟨t1000100, v1000100, e1000100, f1000100, o1000100, c1000100, w1000100, T1000100⟩ := st_str (A := fun q : Nat => s.heap.size ≤ q) (fun w hw => hN w (sub_mem nl_1000100 w hw)) (by decide) hA
  obtain ⟨t1000101, v1000101, e1000101, f1000101, o1000101, c1000101, w1000101, T1000101⟩ := st_str (A := fun q : Nat => s.heap.size ≤ q) (fun w hw => hN w (sub_mem nl_1000101 w hw)) (by decide) hA
  obtain ⟨t1000102, v1000102, e1000102, f1000102, o1000102, c1000102, w1000102, T1000102⟩ := st_str (A := fun q : Nat => s.heap.size ≤ q) (fun w hw => hN w (sub_mem nl_1000102 w hw)) (by decide) hA
  obtain ⟨t1000103, v1000103, e1000103, f1000103, o1000103, c1000103, w1000103, T1000103⟩ := st_str (A := fun q : Nat => s.heap.size ≤ q) (fun w hw => hN w (sub_mem nl_1000103 w hw)) (by decide) hA
  obtain ⟨t1000104, v1000104, e1000104, f1000104, o1000104, c1000104, w1000104, T1000104⟩ := st_str (A := fun q : Nat => s.heap.size ≤ q) (fun w hw => hN w (sub_mem nl_1000104 w hw)) (by decide) hA
  obtain ⟨t1000127, v1000127, e1000127, f1000127, o1000127, c1000127, w1000127, T1000127⟩ := st_str (A := fun q : Nat => s.heap.size ≤ q) (fun w hw => hN w (sub_mem nl_1000127 w hw)) (by decide) hA
  obtain ⟨t1000128, v1000128, e1000128, f1000128, o1000128, c1000128, w1000128, T1000128⟩ := st_str (A := fun q : Nat => s.heap.size ≤ q) (fun w hw => hN w (sub_mem nl_1000128 w hw)) (by decide) hA
  obtain ⟨t1000129, v1000129, e1000129, f1000129, o1000129, c1000129, w1000129, T1000129⟩ := st_str (A := fun q : Nat => s.heap.size ≤ q) (fun w hw => hN w (sub_mem nl_1000129 w hw)) (by decide) hA
  obtain ⟨t1000130, v1000130, e1000130, f1000130, o1000130, c1000130, w1000130, T1000130⟩ := st_str (A := fun q : Nat => s.heap.size ≤ q) (fun w hw => hN w (sub_mem nl_1000130 w hw)) (by decide) hA
  obtain ⟨t1000131, v1000131, e1000131, f1000131, o1000131, c1000131, w1000131, T1000131⟩ := st_str (A := fun q : Nat => s.heap.size ≤ q) (fun w hw => hN w (sub_mem nl_1000131 w hw)) (by decide) hA
  have hE : ∀ q ∈ xstr, ∃ t : Nat, (Jvm.Term.string q.1 q.2.1).eval args s none [] s = some (.ref t) := fun q hq => by
    obtain ⟨t, c, cA, kA, q1, -⟩ := Cond.exactly_spec (args := args) (first := s) (o := none) (s := s) (idx := []) (t := .string q.1 q.2.1) (cls := "java/lang/String") (hN _ (idx_mem nl_ex q hq))
    exact ⟨t, q1⟩
  have hEi : ∀ (i : Nat) (q : String × Nat × String × Nat), xstr[i]? = some q → ∃ t : Nat, (Jvm.Term.string q.1 q.2.1).eval args s none [] s = some (.ref t) := fun i q h => hE q (List.mem_of_getElem? h)
  have eb : (Jvm.Term.arg 0).eval args s none [] s = some (.ref b) := by rw [ha]; rfl
  have hS := st_ref (hN _ nl_sf)
  have hT : ∀ p ∈ xTm, p.2.eval args s none [] s = some .null ∨ ∃ t, p.2.eval args s none [] s = some (.ref t) := by
    unfold xTm
    exact List.forall_mem_cons.mpr ⟨Or.inr ⟨_, eb⟩, List.forall_mem_cons.mpr ⟨Or.inr ⟨_, e1000001⟩, List.forall_mem_cons.mpr ⟨Or.inr ⟨_, e1000002⟩, List.forall_mem_cons.mpr ⟨Or.inr ⟨_, e1000003⟩, List.forall_mem_cons.mpr ⟨hS, List.forall_mem_cons.mpr ⟨Or.inr (hEi 0 _ rfl), List.forall_mem_cons.mpr ⟨Or.inr (hEi 1 _ rfl), List.forall_mem_cons.mpr ⟨Or.inr (hEi 2 _ rfl), List.forall_mem_cons.mpr ⟨Or.inr (hEi 3 _ rfl), List.forall_mem_cons.mpr ⟨Or.inr (hEi 4 _ rfl), List.forall_mem_cons.mpr ⟨Or.inr (hEi 5 _ rfl), List.forall_mem_cons.mpr ⟨Or.inr (hEi 6 _ rfl), List.forall_mem_cons.mpr ⟨Or.inr (hEi 7 _ rfl), List.forall_mem_cons.mpr ⟨Or.inr (hEi 8 _ rfl), List.forall_mem_cons.mpr ⟨Or.inr (hEi 9 _ rfl), List.forall_mem_cons.mpr ⟨Or.inr (hEi 10 _ rfl), List.forall_mem_cons.mpr ⟨Or.inr (hEi 11 _ rfl), List.forall_mem_cons.mpr ⟨Or.inr (hEi 12 _ rfl), List.forall_mem_cons.mpr ⟨Or.inr (hEi 13 _ rfl), List.forall_mem_cons.mpr ⟨Or.inr (hEi 14 _ rfl), List.forall_mem_cons.mpr ⟨Or.inr (hEi 15 _ rfl), List.forall_mem_cons.mpr ⟨Or.inr (hEi 16 _ rfl), List.forall_mem_cons.mpr ⟨Or.inr (hEi 17 _ rfl), List.forall_mem_cons.mpr ⟨Or.inr (hEi 18 _ rfl), List.forall_mem_cons.mpr ⟨Or.inr (hEi 19 _ rfl), List.forall_mem_cons.mpr ⟨Or.inr (hEi 20 _ rfl), List.forall_mem_cons.mpr ⟨Or.inr (hEi 21 _ rfl), List.forall_mem_cons.mpr ⟨Or.inr (hEi 22 _ rfl), List.forall_mem_cons.mpr ⟨Or.inr (hEi 23 _ rfl), List.forall_mem_cons.mpr ⟨Or.inr (hEi 24 _ rfl), List.forall_mem_cons.mpr ⟨Or.inr (hEi 25 _ rfl), List.forall_mem_cons.mpr ⟨Or.inr (hEi 26 _ rfl), List.forall_mem_cons.mpr ⟨Or.inr (hEi 27 _ rfl), List.forall_mem_cons.mpr ⟨Or.inr (hEi 28 _ rfl), List.forall_mem_cons.mpr ⟨Or.inr (hEi 29 _ rfl), List.forall_mem_cons.mpr ⟨Or.inr (hEi 30 _ rfl), List.forall_mem_cons.mpr ⟨Or.inr (hEi 31 _ rfl), List.forall_mem_cons.mpr ⟨Or.inr ⟨_, f1000100⟩, List.forall_mem_cons.mpr ⟨Or.inr ⟨_, f1000101⟩, List.forall_mem_cons.mpr ⟨Or.inr ⟨_, f1000102⟩, List.forall_mem_cons.mpr ⟨Or.inr ⟨_, f1000103⟩, List.forall_mem_cons.mpr ⟨Or.inr ⟨_, f1000104⟩, List.forall_mem_cons.mpr ⟨Or.inr ⟨_, f1000127⟩, List.forall_mem_cons.mpr ⟨Or.inr ⟨_, f1000128⟩, List.forall_mem_cons.mpr ⟨Or.inr ⟨_, f1000129⟩, List.forall_mem_cons.mpr ⟨Or.inr ⟨_, f1000130⟩, List.forall_mem_cons.mpr ⟨Or.inr ⟨_, f1000131⟩, fun _ h => absurd h List.not_mem_nil⟩⟩⟩⟩⟩⟩⟩⟩⟩⟩⟩⟩⟩⟩⟩⟩⟩⟩⟩⟩⟩⟩⟩⟩⟩⟩⟩⟩⟩⟩⟩⟩⟩⟩⟩⟩⟩⟩⟩⟩⟩⟩⟩⟩⟩⟩⟩
  have sv : ∀ (k : Nat) (t : Jvm.Term) (v : Value), xTm.lookup k = some t → t.eval args s none [] s = some v → xGV args s k = v := fun k t v h e => xGV_at h e
  refine ⟨(s.heap.size, dC, dI, gA, xGV args s, zSH ln, zCTC (zS0 ln xs)), rfl, sv 1000000 (.arg 0) (.ref b) rfl eb, rfl, rfl, hC, fun t a b => hAr t a b, fun k n hk hs => ?_, fun k n hk hs => ?_, fun k n hk hs => ?_, fun q hq => ?_, fun q hq => ?_, fun w hw hx => va_Nw.of (x_tabs hx) (hts w hw), fun q hq => va_Nc.of (hN _ (List.mem_of_mem_drop (idx_mem nl_nc q hq))), ⟨vx_Zqof (hts _ lay_U) (hts _ tq9) (hN _ nl_us) hA, vx_Zqof (hts _ lay_S) (hts _ tq9) (hN _ nl_ss) hA⟩, fun k hk => ?_, Nat.le_refl _, va_AO.of (hts _ tq170)⟩
  · by_cases ek : k = 1000000
    · subst ek
      have hn : (30, ln) = (30, n) := (shS ln).symm.trans hs
      cases hn
      obtain ⟨scr, h1, h2, h3, h4, h5⟩ := hX
      refine ⟨b, sv 1000000 (.arg 0) (.ref b) rfl eb, scr, h1, h2, h3, by omega, (by rw [h4] <;> rfl), fun j hj => ?_, hA b hbl⟩
      rw [h5 j hj]
      have e0 : zS0 ln xs 1000000 (j : Int) = (xs j).toInt := if_pos ⟨rfl, by omega, by omega⟩
      show some (Value.int (xs j)) = some (Value.int (iN (zS0 ln xs 1000000 (j : Int))))
      rw [e0, iN_of]
    · rcases zST_30 _ (zST_mem (by omega) (by decide) hs) rfl with h | h | h
      · cases h
        refine ⟨t1000001, sv 1000001 _ _ rfl e1000001, va_T_congr T1000001 (fun j hj => ?_)⟩
        have key : ∀ j : Nat, j < 5 → ([3, 3, 2, 2, 3] : List Int32).getD j 0 = iN (zKC 1000001 (j : Int)) := by decide +kernel
        show Value.int _ = Value.int (iN (zKC 1000001 (j : Int)))
        rw [key j hj]
      · cases h
        refine ⟨t1000002, sv 1000002 _ _ rfl e1000002, va_T_congr T1000002 (fun j hj => ?_)⟩
        have key : ∀ j : Nat, j < 15 → ([0, 0, 1, 3, 0, 1, 0, 1, 0, 0, 0, 0, 1, 1, 0] : List Int32).getD j 0 = iN (zKC 1000002 (j : Int)) := by decide +kernel
        show Value.int _ = Value.int (iN (zKC 1000002 (j : Int)))
        rw [key j hj]
      · cases h
        refine ⟨t1000003, sv 1000003 _ _ rfl e1000003, va_T_congr T1000003 (fun j hj => ?_)⟩
        have key : ∀ j : Nat, j < 15 → ([40, 10, 200, 30, 5, 60, 3, 365, 0, 3, 5, 0, 5, 12, 200] : List Int32).getD j 0 = iN (zKC 1000003 (j : Int)) := by decide +kernel
        show Value.int _ = Value.int (iN (zKC 1000003 (j : Int)))
        rw [key j hj]
  · have hm := zST_32 _ (zST_mem (by rcases Nat.lt_or_eq_of_le hk with h | h; exact h; subst h; cases (shS ln).symm.trans hs) (by decide) hs) rfl
    simp only [List.mem_cons, List.not_mem_nil, or_false] at hm
    rcases hm with h | h | h | h | h | h | h | h | h | h
    · cases h
      refine ⟨v1000100, sv 1000200 _ _ rfl f1000100, va_T_congr T1000100 (fun j hj => ?_)⟩
      have key : ∀ j : Nat, j < 5 → ([114, 117, 108, 101, 115] : List Int32).getD j 0 = iN (zKC 1000200 (j : Int)) := by decide +kernel
      show Value.int _ = Value.int (iN (zKC 1000200 (j : Int)))
      rw [key j hj]
    · cases h
      refine ⟨v1000101, sv 1000201 _ _ rfl f1000101, va_T_congr T1000101 (fun j hj => ?_)⟩
      have key : ∀ j : Nat, j < 4 → ([119, 97, 108, 108] : List Int32).getD j 0 = iN (zKC 1000201 (j : Int)) := by decide +kernel
      show Value.int _ = Value.int (iN (zKC 1000201 (j : Int)))
      rw [key j hj]
    · cases h
      refine ⟨v1000102, sv 1000202 _ _ rfl f1000102, va_T_congr T1000102 (fun j hj => ?_)⟩
      have key : ∀ j : Nat, j < 7 → ([104, 97, 114, 110, 101, 115, 115] : List Int32).getD j 0 = iN (zKC 1000202 (j : Int)) := by decide +kernel
      show Value.int _ = Value.int (iN (zKC 1000202 (j : Int)))
      rw [key j hj]
    · cases h
      refine ⟨v1000103, sv 1000203 _ _ rfl f1000103, va_T_congr T1000103 (fun j hj => ?_)⟩
      have key : ∀ j : Nat, j < 6 → ([109, 101, 109, 98, 101, 114] : List Int32).getD j 0 = iN (zKC 1000203 (j : Int)) := by decide +kernel
      show Value.int _ = Value.int (iN (zKC 1000203 (j : Int)))
      rw [key j hj]
    · cases h
      refine ⟨v1000104, sv 1000204 _ _ rfl f1000104, va_T_congr T1000104 (fun j hj => ?_)⟩
      have key : ∀ j : Nat, j < 6 → ([99, 111, 117, 114, 115, 101] : List Int32).getD j 0 = iN (zKC 1000204 (j : Int)) := by decide +kernel
      show Value.int _ = Value.int (iN (zKC 1000204 (j : Int)))
      rw [key j hj]
    · cases h
      refine ⟨v1000127, sv 1000227 _ _ rfl f1000127, va_T_congr T1000127 (fun j hj => ?_)⟩
      have key : ∀ j : Nat, j < 5 → ([114, 117, 108, 101, 115] : List Int32).getD j 0 = iN (zKC 1000227 (j : Int)) := by decide +kernel
      show Value.int _ = Value.int (iN (zKC 1000227 (j : Int)))
      rw [key j hj]
    · cases h
      refine ⟨v1000128, sv 1000228 _ _ rfl f1000128, va_T_congr T1000128 (fun j hj => ?_)⟩
      have key : ∀ j : Nat, j < 4 → ([119, 97, 108, 108] : List Int32).getD j 0 = iN (zKC 1000228 (j : Int)) := by decide +kernel
      show Value.int _ = Value.int (iN (zKC 1000228 (j : Int)))
      rw [key j hj]
    · cases h
      refine ⟨v1000129, sv 1000229 _ _ rfl f1000129, va_T_congr T1000129 (fun j hj => ?_)⟩
      have key : ∀ j : Nat, j < 7 → ([104, 97, 114, 110, 101, 115, 115] : List Int32).getD j 0 = iN (zKC 1000229 (j : Int)) := by decide +kernel
      show Value.int _ = Value.int (iN (zKC 1000229 (j : Int)))
      rw [key j hj]
    · cases h
      refine ⟨v1000130, sv 1000230 _ _ rfl f1000130, va_T_congr T1000130 (fun j hj => ?_)⟩
      have key : ∀ j : Nat, j < 6 → ([109, 101, 109, 98, 101, 114] : List Int32).getD j 0 = iN (zKC 1000230 (j : Int)) := by decide +kernel
      show Value.int _ = Value.int (iN (zKC 1000230 (j : Int)))
      rw [key j hj]
    · cases h
      refine ⟨v1000131, sv 1000231 _ _ rfl f1000131, va_T_congr T1000131 (fun j hj => ?_)⟩
      have key : ∀ j : Nat, j < 6 → ([99, 111, 117, 114, 115, 101] : List Int32).getD j 0 = iN (zKC 1000231 (j : Int)) := by decide +kernel
      show Value.int _ = Value.int (iN (zKC 1000231 (j : Int)))
      rw [key j hj]
  · have hm := zST_31 _ (zST_mem (by rcases Nat.lt_or_eq_of_le hk with h | h; exact h; subst h; cases (shS ln).symm.trans hs) (by decide) hs) rfl
    simp only [List.mem_cons, List.not_mem_nil, or_false] at hm
    rcases hm with h | h | h | h | h | h | h | h | h | h
    · cases h
      refine ⟨t1000100, sv 1000100 _ _ rfl e1000100, o1000100, ?_, c1000100⟩
      show va_OF "java/lang/String" "value" "[B" (xGV args s 1000200) _ _ _ _
      rw [sv 1000200 _ _ rfl f1000100]
      exact w1000100
    · cases h
      refine ⟨t1000101, sv 1000101 _ _ rfl e1000101, o1000101, ?_, c1000101⟩
      show va_OF "java/lang/String" "value" "[B" (xGV args s 1000201) _ _ _ _
      rw [sv 1000201 _ _ rfl f1000101]
      exact w1000101
    · cases h
      refine ⟨t1000102, sv 1000102 _ _ rfl e1000102, o1000102, ?_, c1000102⟩
      show va_OF "java/lang/String" "value" "[B" (xGV args s 1000202) _ _ _ _
      rw [sv 1000202 _ _ rfl f1000102]
      exact w1000102
    · cases h
      refine ⟨t1000103, sv 1000103 _ _ rfl e1000103, o1000103, ?_, c1000103⟩
      show va_OF "java/lang/String" "value" "[B" (xGV args s 1000203) _ _ _ _
      rw [sv 1000203 _ _ rfl f1000103]
      exact w1000103
    · cases h
      refine ⟨t1000104, sv 1000104 _ _ rfl e1000104, o1000104, ?_, c1000104⟩
      show va_OF "java/lang/String" "value" "[B" (xGV args s 1000204) _ _ _ _
      rw [sv 1000204 _ _ rfl f1000104]
      exact w1000104
    · cases h
      refine ⟨t1000127, sv 1000127 _ _ rfl e1000127, o1000127, ?_, c1000127⟩
      show va_OF "java/lang/String" "value" "[B" (xGV args s 1000227) _ _ _ _
      rw [sv 1000227 _ _ rfl f1000127]
      exact w1000127
    · cases h
      refine ⟨t1000128, sv 1000128 _ _ rfl e1000128, o1000128, ?_, c1000128⟩
      show va_OF "java/lang/String" "value" "[B" (xGV args s 1000228) _ _ _ _
      rw [sv 1000228 _ _ rfl f1000128]
      exact w1000128
    · cases h
      refine ⟨t1000129, sv 1000129 _ _ rfl e1000129, o1000129, ?_, c1000129⟩
      show va_OF "java/lang/String" "value" "[B" (xGV args s 1000229) _ _ _ _
      rw [sv 1000229 _ _ rfl f1000129]
      exact w1000129
    · cases h
      refine ⟨t1000130, sv 1000130 _ _ rfl e1000130, o1000130, ?_, c1000130⟩
      show va_OF "java/lang/String" "value" "[B" (xGV args s 1000230) _ _ _ _
      rw [sv 1000230 _ _ rfl f1000130]
      exact w1000130
    · cases h
      refine ⟨t1000131, sv 1000131 _ _ rfl e1000131, o1000131, ?_, c1000131⟩
      show va_OF "java/lang/String" "value" "[B" (xGV args s 1000231) _ _ _ _
      rw [sv 1000231 _ _ rfl f1000131]
      exact w1000131
  · have z1 : ∀ q ∈ xstat, va_Z q.1 q.2.1 q.2.2.1 (match q.2.2.2 with
        | .ref a => xGV args s a
        | v => v) (fun q : Nat => s.heap.size ≤ q) s s.heap := by
      unfold xstat
      refine List.forall_mem_cons.mpr ⟨?_, List.forall_mem_cons.mpr ⟨?_, List.forall_mem_cons.mpr ⟨?_, List.forall_mem_cons.mpr ⟨?_, List.forall_mem_cons.mpr ⟨?_, fun _ h => absurd h List.not_mem_nil⟩⟩⟩⟩⟩
      · show va_Z _ _ _ (xGV args s 1000001) _ _ _
        rw [sv 1000001 _ _ rfl e1000001]
        exact va_Zof (hts _ lay_N) (hts _ tq6) e1000001 hA
      · show va_Z _ _ _ (xGV args s 1000002) _ _ _
        rw [sv 1000002 _ _ rfl e1000002]
        exact va_Zof (hts _ lay_L) (hts _ tq6) e1000002 hA
      · show va_Z _ _ _ (xGV args s 1000003) _ _ _
        rw [sv 1000003 _ _ rfl e1000003]
        exact va_Zof (hts _ lay_G) (hts _ tq6) e1000003 hA
      · exact va_Zof (hts _ lay_C) (hts _ tq14) (va_eqi (hN _ nl_cs)) hA
      · show va_Z _ _ _ (xGV args s 1000050) _ _ _
        rcases hS with h | ⟨t, h⟩
        · rw [sv 1000050 _ _ rfl h]
          exact va_Zof (hts _ lay_F) (hts _ tq16) h hA
        · rw [sv 1000050 _ _ rfl h]
          exact va_Zof (hts _ lay_F) (hts _ tq16) h hA
    have z2 := z1 q hq
    have z3 : ∀ q ∈ xstat, (match q.2.2.2 with
        | .ref a => xGV args s a
        | v => v) = xv (s.heap.size, dC, dI, gA, xGV args s, zSH ln, zCTC (zS0 ln xs)) q.2.2.2 := by
      unfold xstat
      exact List.forall_mem_cons.mpr ⟨rfl, List.forall_mem_cons.mpr ⟨rfl, List.forall_mem_cons.mpr ⟨rfl, List.forall_mem_cons.mpr ⟨rfl, List.forall_mem_cons.mpr ⟨rfl, fun _ h => absurd h List.not_mem_nil⟩⟩⟩⟩⟩
    rw [z3 q hq] at z2
    exact z2
  · obtain ⟨t, e⟩ := hE q hq
    exact ⟨t, xGV_at (xTm_str q hq) e, vk_R.of (hts _ (List.mem_append_right _ (idx_mem nl_sr q hq))) e⟩
  · show xGV args s k = .null ∨ ∃ t, xGV args s k = .ref t
    cases h : xTm.lookup k with
    | none =>
      refine Or.inl ?_
      unfold xGV
      rw [h]
    | some t =>
      have hm : (k, t) ∈ xTm := by
        obtain ⟨l1, l2, h5, -⟩ := List.lookup_eq_some_iff.mp h
        rw [h5]
        simp
      rcases hT _ hm with e | ⟨a, e⟩
      · exact Or.inl (sv _ _ _ h e)
      · exact Or.inr ⟨a, sv _ _ _ h e⟩
end XS
