set_option maxRecDepth 20000
/-! a hall under way: one thing more -/
def rC (r : Row) (a b c d e f : Int) : Row := fun p => if p = 4 then a else if p = 37 then b else if p = 470 then c else if p = 546 then d else if p = 619 then e else if p = 644 then f else r p
theorem rC_o {r : Row} {a b c d e f p : Int} (h : ¬ isC p) : rC r a b c d e f p = r p := by
  unfold isC at h
  unfold rC
  rw [if_neg (by omega), if_neg (by omega), if_neg (by omega), if_neg (by omega), if_neg (by omega), if_neg (by omega)]
theorem rC_c {r : Row} {a b c d e f : Int} : rC r a b c d e f 4 = a ∧ rC r a b c d e f 37 = b ∧ rC r a b c d e f 470 = c ∧ rC r a b c d e f 546 = d ∧ rC r a b c d e f 619 = e ∧ rC r a b c d e f 644 = f := ⟨rfl, rfl, rfl, rfl, rfl, rfl⟩
theorem CBn_rC {r : Row} {a b c d e f : Int} : CBn (rC r a b c d e f) ↔ (0 ≤ a ∧ a ≤ 8) ∧ (0 ≤ b ∧ b ≤ 24) ∧ (0 ≤ c ∧ c ≤ 15) ∧ (0 ≤ d ∧ d ≤ 12) ∧ (0 ≤ e ∧ e ≤ 8) ∧ (0 ≤ f ∧ f ≤ 30) := Iff.rfl
theorem rC_self {r : Row} : rC r (r 4) (r 37) (r 470) (r 546) (r 619) (r 644) = r := by
  funext p
  unfold rC
  by_cases h1 : p = 4
  · rw [if_pos h1, h1]
  by_cases h2 : p = 37
  · rw [if_neg h1, if_pos h2, h2]
  by_cases h3 : p = 470
  · rw [if_neg h1, if_neg h2, if_pos h3, h3]
  by_cases h4 : p = 546
  · rw [if_neg h1, if_neg h2, if_neg h3, if_pos h4, h4]
  by_cases h5 : p = 619
  · rw [if_neg h1, if_neg h2, if_neg h3, if_neg h4, if_pos h5, h5]
  by_cases h6 : p = 644
  · rw [if_neg h1, if_neg h2, if_neg h3, if_neg h4, if_neg h5, if_pos h6, h6]
  rw [if_neg h1, if_neg h2, if_neg h3, if_neg h4, if_neg h5, if_neg h6]
section GR
variable {col : Col} {D : DD} {g n M a b c d e f x : Int} {r : Row} {h : HLs}
theorem RLp.o (H : RLp col D g r M h n) : dO D g 7 := H.1
theorem RLp.co (H : RLp col D g r M h n) : col g = (g, 0) := H.2.1
theorem RLp.mon (H : RLp col D g r M h n) : M < 1000000 := H.2.2.2.2.2.2.1.1.2.2.1.2.2
theorem RLp.e4 (H : RLp col D g r M h n) : HL col D g 4 h.lw M ∧ (h.lw.length : Int) = r 4 ∧ h.lw.Nodup ∧ ∀ k : Nat, k < h.lw.length → RW col (g, 14) D (h.lw.getD k 0) 4 (fun i => r (5 + 4 * k + i)) := ⟨H.2.2.2.2.2.2.1, H.2.2.2.2.2.2.2.2.2.2.2.2.1, H.2.2.2.2.2.2.2.2.2.2.2.2.2.2.2.2.2.2.1, H.2.2.2.2.2.2.2.2.2.2.2.2.2.2.2.2.2.2.2.2.2.2.1⟩
theorem RLp.m4 (H : RLp col D g r M h n) : ∀ y ∈ h.lw, y < dT D := fun y hy => by
  obtain ⟨i, hi, q⟩ := mem_getD hy
  have := H.e4.2.2.2 i hi
  rw [q] at this
  exact this.1.1.2.1
theorem l_add4 (H : RLp col D g (rC r a b c d e f) M h n) (hC : CBn (rC r a b c d e f)) (hv : a < 8) (hnn : n ≤ 12) (hM : M < 900000) (hT : dT D < 600000) (hS : dS D + 48 ≤ 7200000) (hx : RW col (g, 14) D x 4 (fun i => r (5 + 4 * a + i))) (hxn : x ∉ h.lw) :
    ∃ D' col', fJx4a65c_add_9ea2d (dW D g 4) x D = some (1, D') ∧ RLp col' D' g (rC r (a + 1) b c d e f) (M + 1) ⟨h.lw ++ [x], h.lr, h.lh, h.lm, h.lc, h.la⟩ n ∧ (∀ y, y < dT D → col' y = col y) ∧ Ev (fun y => (col y).1 = g) 1 48 D D' := by
  have hC' := CBn_rC.mp hC
  have g151 := H.o.1
  have xO : gdE D x := Or.inr (Or.inl ⟨hx.1.1.1, hx.1.1.2.1, by rw [hx.1.1.2.2]; decide⟩)
  have hL := H.e4.1
  have hN : (h.lw.length : Int) = a := H.e4.2.1
  obtain ⟨D', w1, w2, w3, w4⟩ := s_add hL.1 (v := x) (by omega) (by omega) xO hT hS
  generalize hc : (fun y => if y < dT D then col y else (g, 4) : Col) = col'
  have c0 : ∀ y, y < dT D → col' y = col y := fun y hy => by rw [← hc]; exact if_pos hy
  have c9 : ∀ y, dT D ≤ y → col' y = (g, 4) := fun y hy => by rw [← hc]; exact if_neg (by omega)
  have H0 : RLp col' D g (rC r a b c d e f) M h n := H.keep (Ev.refl (fun _ => False) D) (fun _ _ _ z => z) (fun y hy _ => c0 y hy)
  have hT' : dT D ≤ 600000 := by omega
  have P := lst_P H0.e4.1
  have hno : ∀ y, y < dT D → col' y ≠ (g, 4) → ¬ FA D (dW D g 4) y := fun y hy hn q => hn (P y hy hT' q)
  have gno : ¬ FA D (dW D g 4) g := hno g H.o.2.1 (by
    rw [H0.co]
    intro q
    have : (0 : Int) = 4 := congrArg Prod.snd q
    omega)
  have gj : dW D' g 4 = dW D g 4 := w3.at H.o.2.1 gno 4
  have xc : col' x = (g, 14) := by rw [c0 x hx.1.1.2.1]; exact hx.2.1
  have xno : ¬ FA D (dW D g 4) x := hno x hx.1.1.2.1 (by
    rw [xc]
    intro q
    have : (14 : Int) = 4 := congrArg Prod.snd q
    omega)
  refine ⟨D', col', w1, ?_, c0, w3.mono (Int.le_refl _) (Int.le_refl _) (fun y hy q => by rw [← c0 y hy, P y hy hT' q])⟩
  refine H0.app hC w3 (fun y hy q => P y hy hT' q) (by decide) (by omega) (by omega) (fun p p0 p1 => by rw [rC_o p1, rC_o p1]) hnn (Or.inr ⟨⟨?_, ?_, ?_⟩, ?_, ?_, fun k hk => ?_⟩) (Or.inl ⟨by decide, rfl, rfl⟩) (Or.inl ⟨by decide, rfl, rfl⟩) (Or.inl ⟨by decide, rfl, rfl⟩) (Or.inl ⟨by decide, rfl, rfl⟩) (Or.inl ⟨by decide, rfl, rfl⟩)
  · rw [gj]; exact w2
  · rw [gj]; exact H0.e4.1.2.1
  · rw [gj]
    rcases w4 with q | q
    · rw [q]; exact H0.e4.1.2.2
    · exact Or.inr (c9 _ q)
  · show (((h.lw ++ [x]).length : Nat) : Int) = a + 1
    rw [List.length_append]
    show ((h.lw.length + 1 : Nat) : Int) = _
    omega
  · exact nodup_snoc H.e4.2.2.1 hxn
  · have hk' : k < h.lw.length + 1 := by have : k < (h.lw ++ [x]).length := hk; simpa using this
    show RW col' (g, 14) D' ((h.lw ++ [x]).getD k 0) 4 _
    rw [getD_snoc hk]
    by_cases ck : k < h.lw.length
    · rw [if_pos ck]
      have y := H0.e4.2.2.2 k ck
      have z := y.ev w3 (hno _ y.1.1.2.1 (by
        rw [y.2.1]
        intro q
        have : (14 : Int) = 4 := congrArg Prod.snd q
        omega))
      refine ⟨z.1, z.2.1, fun i hi => ?_⟩
      rw [z.2.2 i hi]
      show rC r a b c d e f (5 + 4 * (k : Int) + i) = rC r (a + 1) b c d e f (5 + 4 * (k : Int) + i)
      rw [rC_o (by unfold isC; omega), rC_o (by unfold isC; omega)]
    · rw [if_neg ck]
      have y := (hx.col c0).ev w3 xno
      refine ⟨y.1, y.2.1, fun i hi => ?_⟩
      rw [y.2.2 i hi]
      show r (5 + 4 * a + i) = rC r (a + 1) b c d e f (5 + 4 * (k : Int) + i)
      rw [rC_o (by unfold isC; omega), show (k : Int) = a by omega]
theorem RLp.e5 (H : RLp col D g r M h n) : HL col D g 5 h.lr M ∧ (h.lr.length : Int) = r 37 ∧ h.lr.Nodup ∧ ∀ k : Nat, k < h.lr.length → RR col D g (h.lr.getD k 0) (fun i => r (38 + 18 * k + i)) n M := ⟨H.2.2.2.2.2.2.2.1, H.2.2.2.2.2.2.2.2.2.2.2.2.2.1, H.2.2.2.2.2.2.2.2.2.2.2.2.2.2.2.2.2.2.2.1, H.2.2.2.2.2.2.2.2.2.2.2.2.2.2.2.2.2.2.2.2.2.2.2.1⟩
theorem RLp.m5 (H : RLp col D g r M h n) : ∀ y ∈ h.lr, y < dT D := fun y hy => by
  obtain ⟨i, hi, q⟩ := mem_getD hy
  have := H.e5.2.2.2 i hi
  rw [q] at this
  exact this.1.2.1
theorem l_add5 (H : RLp col D g (rC r a b c d e f) M h n) (hC : CBn (rC r a b c d e f)) (hv : b < 24) (hnn : n ≤ 12) (hM : M < 900000) (hT : dT D < 600000) (hS : dS D + 48 ≤ 7200000) (hx : RR col D g x (fun i => r (38 + 18 * b + i)) n M) (hxn : x ∉ h.lr) :
    ∃ D' col', fJx4a65c_add_9ea2d (dW D g 5) x D = some (1, D') ∧ RLp col' D' g (rC r a (b + 1) c d e f) (M + 1) ⟨h.lw, h.lr ++ [x], h.lh, h.lm, h.lc, h.la⟩ n ∧ (∀ y, y < dT D → col' y = col y) ∧ Ev (fun y => (col y).1 = g) 1 48 D D' := by
  have hC' := CBn_rC.mp hC
  have g151 := H.o.1
  have xO : gdE D x := Or.inr (Or.inl ⟨hx.1.1, hx.1.2.1, by rw [hx.1.2.2]; decide⟩)
  have hL := H.e5.1
  have hN : (h.lr.length : Int) = b := H.e5.2.1
  obtain ⟨D', w1, w2, w3, w4⟩ := s_add hL.1 (v := x) (by omega) (by omega) xO hT hS
  generalize hc : (fun y => if y < dT D then col y else (g, 5) : Col) = col'
  have c0 : ∀ y, y < dT D → col' y = col y := fun y hy => by rw [← hc]; exact if_pos hy
  have c9 : ∀ y, dT D ≤ y → col' y = (g, 5) := fun y hy => by rw [← hc]; exact if_neg (by omega)
  have H0 : RLp col' D g (rC r a b c d e f) M h n := H.keep (Ev.refl (fun _ => False) D) (fun _ _ _ z => z) (fun y hy _ => c0 y hy)
  have hT' : dT D ≤ 600000 := by omega
  have P := lst_P H0.e5.1
  have hno : ∀ y, y < dT D → col' y ≠ (g, 5) → ¬ FA D (dW D g 5) y := fun y hy hn q => hn (P y hy hT' q)
  have gno : ¬ FA D (dW D g 5) g := hno g H.o.2.1 (by
    rw [H0.co]
    intro q
    have : (0 : Int) = 5 := congrArg Prod.snd q
    omega)
  have gj : dW D' g 5 = dW D g 5 := w3.at H.o.2.1 gno 5
  have xc : col' x = (g, 15) := by rw [c0 x hx.1.2.1]; exact hx.2.1
  have xno : ¬ FA D (dW D g 5) x := hno x hx.1.2.1 (by
    rw [xc]
    intro q
    have : (15 : Int) = 5 := congrArg Prod.snd q
    omega)
  refine ⟨D', col', w1, ?_, c0, w3.mono (Int.le_refl _) (Int.le_refl _) (fun y hy q => by rw [← c0 y hy, P y hy hT' q])⟩
  refine H0.app hC w3 (fun y hy q => P y hy hT' q) (by decide) (by omega) (by omega) (fun p p0 p1 => by rw [rC_o p1, rC_o p1]) hnn (Or.inl ⟨by decide, rfl, rfl⟩) (Or.inr ⟨⟨?_, ?_, ?_⟩, ?_, ?_, fun k hk => ?_⟩) (Or.inl ⟨by decide, rfl, rfl⟩) (Or.inl ⟨by decide, rfl, rfl⟩) (Or.inl ⟨by decide, rfl, rfl⟩) (Or.inl ⟨by decide, rfl, rfl⟩)
  · rw [gj]; exact w2
  · rw [gj]; exact H0.e5.1.2.1
  · rw [gj]
    rcases w4 with q | q
    · rw [q]; exact H0.e5.1.2.2
    · exact Or.inr (c9 _ q)
  · show (((h.lr ++ [x]).length : Nat) : Int) = b + 1
    rw [List.length_append]
    show ((h.lr.length + 1 : Nat) : Int) = _
    omega
  · exact nodup_snoc H.e5.2.2.1 hxn
  · have hk' : k < h.lr.length + 1 := by have : k < (h.lr ++ [x]).length := hk; simpa using this
    show RR col' D' g ((h.lr ++ [x]).getD k 0) _ n (M + 1)
    rw [getD_snoc hk]
    have mapno : ∀ o : Int, 151 ≤ o → ∀ y, y < dT D → col' y = (g, o) → ¬ FA D (dW D g 5) y := fun o ho y hy q => hno y hy (by
      rw [q]
      intro q'
      have : o = 5 := congrArg Prod.snd q'
      omega)
    by_cases ck : k < h.lr.length
    · rw [if_pos ck]
      have y := H0.e5.2.2.2 k ck
      obtain ⟨g1, g2, g3, L', g4, g5, g6, g7⟩ := (y.mono (M' := M + 1) (by omega)).ev w3 (hno _ y.1.2.1 (by
        rw [y.2.1]
        intro q
        have : (15 : Int) = 5 := congrArg Prod.snd q
        omega)) (mapno _ y.1.1)
      have er : ∀ i : Int, 0 ≤ i → i < 18 → rC r a (b + 1) c d e f (38 + 18 * (k : Int) + i) = rC r a b c d e f (38 + 18 * (k : Int) + i) := fun i i0 i1 => by rw [rC_o (by unfold isC; omega), rC_o (by unfold isC; omega)]
      refine ⟨g1, g2, fun i hi => by rw [g3 i hi]; exact (er i (by omega) (by omega)).symm, L', g4, g5, g6, fun m v m0 m1 => ?_⟩
      rw [g7 m v m0 m1]
      show (rC r a b c d e f (38 + 18 * (k : Int) + (6 + m)) = v ∧ v ≠ -1) ↔ (rC r a (b + 1) c d e f (38 + 18 * (k : Int) + (6 + m)) = v ∧ v ≠ -1)
      rw [er (6 + m) (by omega) (by omega)]
    · rw [if_neg ck]
      have ek : (k : Int) = b := by omega
      obtain ⟨g1, g2, g3, L', g4, g5, g6, g7⟩ := ((hx.col c0).mono (M' := M + 1) (by omega)).ev w3 xno (mapno _ hx.1.1)
      have er : ∀ i : Int, 0 ≤ i → i < 18 → rC r a (b + 1) c d e f (38 + 18 * (k : Int) + i) = r (38 + 18 * b + i) := fun i i0 i1 => by rw [rC_o (by unfold isC; omega), ek]
      refine ⟨g1, g2, fun i hi => by rw [g3 i hi]; exact (er i (by omega) (by omega)).symm, L', g4, g5, g6, fun m v m0 m1 => ?_⟩
      rw [g7 m v m0 m1]
      show (r (38 + 18 * b + (6 + m)) = v ∧ v ≠ -1) ↔ (rC r a (b + 1) c d e f (38 + 18 * (k : Int) + (6 + m)) = v ∧ v ≠ -1)
      rw [er (6 + m) (by omega) (by omega)]
theorem RLp.e6 (H : RLp col D g r M h n) : HL col D g 6 h.lh M ∧ (h.lh.length : Int) = r 470 ∧ h.lh.Nodup ∧ ∀ k : Nat, k < h.lh.length → RW col (g, 16) D (h.lh.getD k 0) 4 (fun i => r (471 + 5 * k + i)) := ⟨H.2.2.2.2.2.2.2.2.1, H.2.2.2.2.2.2.2.2.2.2.2.2.2.2.1, H.2.2.2.2.2.2.2.2.2.2.2.2.2.2.2.2.2.2.2.2.1, H.2.2.2.2.2.2.2.2.2.2.2.2.2.2.2.2.2.2.2.2.2.2.2.2.1⟩
theorem RLp.m6 (H : RLp col D g r M h n) : ∀ y ∈ h.lh, y < dT D := fun y hy => by
  obtain ⟨i, hi, q⟩ := mem_getD hy
  have := H.e6.2.2.2 i hi
  rw [q] at this
  exact this.1.1.2.1
theorem l_add6 (H : RLp col D g (rC r a b c d e f) M h n) (hC : CBn (rC r a b c d e f)) (hv : c < 15) (hnn : n ≤ 12) (hM : M < 900000) (hT : dT D < 600000) (hS : dS D + 48 ≤ 7200000) (hx : RW col (g, 16) D x 4 (fun i => r (471 + 5 * c + i))) (hxn : x ∉ h.lh) :
    ∃ D' col', fJx4a65c_add_9ea2d (dW D g 6) x D = some (1, D') ∧ RLp col' D' g (rC r a b (c + 1) d e f) (M + 1) ⟨h.lw, h.lr, h.lh ++ [x], h.lm, h.lc, h.la⟩ n ∧ (∀ y, y < dT D → col' y = col y) ∧ Ev (fun y => (col y).1 = g) 1 48 D D' := by
  have hC' := CBn_rC.mp hC
  have g151 := H.o.1
  have xO : gdE D x := Or.inr (Or.inl ⟨hx.1.1.1, hx.1.1.2.1, by rw [hx.1.1.2.2]; decide⟩)
  have hL := H.e6.1
  have hN : (h.lh.length : Int) = c := H.e6.2.1
  obtain ⟨D', w1, w2, w3, w4⟩ := s_add hL.1 (v := x) (by omega) (by omega) xO hT hS
  generalize hc : (fun y => if y < dT D then col y else (g, 6) : Col) = col'
  have c0 : ∀ y, y < dT D → col' y = col y := fun y hy => by rw [← hc]; exact if_pos hy
  have c9 : ∀ y, dT D ≤ y → col' y = (g, 6) := fun y hy => by rw [← hc]; exact if_neg (by omega)
  have H0 : RLp col' D g (rC r a b c d e f) M h n := H.keep (Ev.refl (fun _ => False) D) (fun _ _ _ z => z) (fun y hy _ => c0 y hy)
  have hT' : dT D ≤ 600000 := by omega
  have P := lst_P H0.e6.1
  have hno : ∀ y, y < dT D → col' y ≠ (g, 6) → ¬ FA D (dW D g 6) y := fun y hy hn q => hn (P y hy hT' q)
  have gno : ¬ FA D (dW D g 6) g := hno g H.o.2.1 (by
    rw [H0.co]
    intro q
    have : (0 : Int) = 6 := congrArg Prod.snd q
    omega)
  have gj : dW D' g 6 = dW D g 6 := w3.at H.o.2.1 gno 6
  have xc : col' x = (g, 16) := by rw [c0 x hx.1.1.2.1]; exact hx.2.1
  have xno : ¬ FA D (dW D g 6) x := hno x hx.1.1.2.1 (by
    rw [xc]
    intro q
    have : (16 : Int) = 6 := congrArg Prod.snd q
    omega)
  refine ⟨D', col', w1, ?_, c0, w3.mono (Int.le_refl _) (Int.le_refl _) (fun y hy q => by rw [← c0 y hy, P y hy hT' q])⟩
  refine H0.app hC w3 (fun y hy q => P y hy hT' q) (by decide) (by omega) (by omega) (fun p p0 p1 => by rw [rC_o p1, rC_o p1]) hnn (Or.inl ⟨by decide, rfl, rfl⟩) (Or.inl ⟨by decide, rfl, rfl⟩) (Or.inr ⟨⟨?_, ?_, ?_⟩, ?_, ?_, fun k hk => ?_⟩) (Or.inl ⟨by decide, rfl, rfl⟩) (Or.inl ⟨by decide, rfl, rfl⟩) (Or.inl ⟨by decide, rfl, rfl⟩)
  · rw [gj]; exact w2
  · rw [gj]; exact H0.e6.1.2.1
  · rw [gj]
    rcases w4 with q | q
    · rw [q]; exact H0.e6.1.2.2
    · exact Or.inr (c9 _ q)
  · show (((h.lh ++ [x]).length : Nat) : Int) = c + 1
    rw [List.length_append]
    show ((h.lh.length + 1 : Nat) : Int) = _
    omega
  · exact nodup_snoc H.e6.2.2.1 hxn
  · have hk' : k < h.lh.length + 1 := by have : k < (h.lh ++ [x]).length := hk; simpa using this
    show RW col' (g, 16) D' ((h.lh ++ [x]).getD k 0) 4 _
    rw [getD_snoc hk]
    by_cases ck : k < h.lh.length
    · rw [if_pos ck]
      have y := H0.e6.2.2.2 k ck
      have z := y.ev w3 (hno _ y.1.1.2.1 (by
        rw [y.2.1]
        intro q
        have : (16 : Int) = 6 := congrArg Prod.snd q
        omega))
      refine ⟨z.1, z.2.1, fun i hi => ?_⟩
      rw [z.2.2 i hi]
      show rC r a b c d e f (471 + 5 * (k : Int) + i) = rC r a b (c + 1) d e f (471 + 5 * (k : Int) + i)
      rw [rC_o (by unfold isC; omega), rC_o (by unfold isC; omega)]
    · rw [if_neg ck]
      have y := (hx.col c0).ev w3 xno
      refine ⟨y.1, y.2.1, fun i hi => ?_⟩
      rw [y.2.2 i hi]
      show r (471 + 5 * c + i) = rC r a b (c + 1) d e f (471 + 5 * (k : Int) + i)
      rw [rC_o (by unfold isC; omega), show (k : Int) = c by omega]
theorem RLp.e7 (H : RLp col D g r M h n) : HL col D g 7 h.lm M ∧ (h.lm.length : Int) = r 546 ∧ h.lm.Nodup ∧ ∀ k : Nat, k < h.lm.length → RW col (g, 17) D (h.lm.getD k 0) 6 (fun i => r (547 + 6 * k + i)) := ⟨H.2.2.2.2.2.2.2.2.2.1, H.2.2.2.2.2.2.2.2.2.2.2.2.2.2.2.1, H.2.2.2.2.2.2.2.2.2.2.2.2.2.2.2.2.2.2.2.2.2.1, H.2.2.2.2.2.2.2.2.2.2.2.2.2.2.2.2.2.2.2.2.2.2.2.2.2.1⟩
theorem RLp.m7 (H : RLp col D g r M h n) : ∀ y ∈ h.lm, y < dT D := fun y hy => by
  obtain ⟨i, hi, q⟩ := mem_getD hy
  have := H.e7.2.2.2 i hi
  rw [q] at this
  exact this.1.1.2.1
theorem l_add7 (H : RLp col D g (rC r a b c d e f) M h n) (hC : CBn (rC r a b c d e f)) (hv : d < 12) (hnn : n ≤ 12) (hM : M < 900000) (hT : dT D < 600000) (hS : dS D + 48 ≤ 7200000) (hx : RW col (g, 17) D x 6 (fun i => r (547 + 6 * d + i))) (hxn : x ∉ h.lm) :
    ∃ D' col', fJx4a65c_add_9ea2d (dW D g 7) x D = some (1, D') ∧ RLp col' D' g (rC r a b c (d + 1) e f) (M + 1) ⟨h.lw, h.lr, h.lh, h.lm ++ [x], h.lc, h.la⟩ n ∧ (∀ y, y < dT D → col' y = col y) ∧ Ev (fun y => (col y).1 = g) 1 48 D D' := by
  have hC' := CBn_rC.mp hC
  have g151 := H.o.1
  have xO : gdE D x := Or.inr (Or.inl ⟨hx.1.1.1, hx.1.1.2.1, by rw [hx.1.1.2.2]; decide⟩)
  have hL := H.e7.1
  have hN : (h.lm.length : Int) = d := H.e7.2.1
  obtain ⟨D', w1, w2, w3, w4⟩ := s_add hL.1 (v := x) (by omega) (by omega) xO hT hS
  generalize hc : (fun y => if y < dT D then col y else (g, 7) : Col) = col'
  have c0 : ∀ y, y < dT D → col' y = col y := fun y hy => by rw [← hc]; exact if_pos hy
  have c9 : ∀ y, dT D ≤ y → col' y = (g, 7) := fun y hy => by rw [← hc]; exact if_neg (by omega)
  have H0 : RLp col' D g (rC r a b c d e f) M h n := H.keep (Ev.refl (fun _ => False) D) (fun _ _ _ z => z) (fun y hy _ => c0 y hy)
  have hT' : dT D ≤ 600000 := by omega
  have P := lst_P H0.e7.1
  have hno : ∀ y, y < dT D → col' y ≠ (g, 7) → ¬ FA D (dW D g 7) y := fun y hy hn q => hn (P y hy hT' q)
  have gno : ¬ FA D (dW D g 7) g := hno g H.o.2.1 (by
    rw [H0.co]
    intro q
    have : (0 : Int) = 7 := congrArg Prod.snd q
    omega)
  have gj : dW D' g 7 = dW D g 7 := w3.at H.o.2.1 gno 7
  have xc : col' x = (g, 17) := by rw [c0 x hx.1.1.2.1]; exact hx.2.1
  have xno : ¬ FA D (dW D g 7) x := hno x hx.1.1.2.1 (by
    rw [xc]
    intro q
    have : (17 : Int) = 7 := congrArg Prod.snd q
    omega)
  refine ⟨D', col', w1, ?_, c0, w3.mono (Int.le_refl _) (Int.le_refl _) (fun y hy q => by rw [← c0 y hy, P y hy hT' q])⟩
  refine H0.app hC w3 (fun y hy q => P y hy hT' q) (by decide) (by omega) (by omega) (fun p p0 p1 => by rw [rC_o p1, rC_o p1]) hnn (Or.inl ⟨by decide, rfl, rfl⟩) (Or.inl ⟨by decide, rfl, rfl⟩) (Or.inl ⟨by decide, rfl, rfl⟩) (Or.inr ⟨⟨?_, ?_, ?_⟩, ?_, ?_, fun k hk => ?_⟩) (Or.inl ⟨by decide, rfl, rfl⟩) (Or.inl ⟨by decide, rfl, rfl⟩)
  · rw [gj]; exact w2
  · rw [gj]; exact H0.e7.1.2.1
  · rw [gj]
    rcases w4 with q | q
    · rw [q]; exact H0.e7.1.2.2
    · exact Or.inr (c9 _ q)
  · show (((h.lm ++ [x]).length : Nat) : Int) = d + 1
    rw [List.length_append]
    show ((h.lm.length + 1 : Nat) : Int) = _
    omega
  · exact nodup_snoc H.e7.2.2.1 hxn
  · have hk' : k < h.lm.length + 1 := by have : k < (h.lm ++ [x]).length := hk; simpa using this
    show RW col' (g, 17) D' ((h.lm ++ [x]).getD k 0) 6 _
    rw [getD_snoc hk]
    by_cases ck : k < h.lm.length
    · rw [if_pos ck]
      have y := H0.e7.2.2.2 k ck
      have z := y.ev w3 (hno _ y.1.1.2.1 (by
        rw [y.2.1]
        intro q
        have : (17 : Int) = 7 := congrArg Prod.snd q
        omega))
      refine ⟨z.1, z.2.1, fun i hi => ?_⟩
      rw [z.2.2 i hi]
      show rC r a b c d e f (547 + 6 * (k : Int) + i) = rC r a b c (d + 1) e f (547 + 6 * (k : Int) + i)
      rw [rC_o (by unfold isC; omega), rC_o (by unfold isC; omega)]
    · rw [if_neg ck]
      have y := (hx.col c0).ev w3 xno
      refine ⟨y.1, y.2.1, fun i hi => ?_⟩
      rw [y.2.2 i hi]
      show r (547 + 6 * d + i) = rC r a b c (d + 1) e f (547 + 6 * (k : Int) + i)
      rw [rC_o (by unfold isC; omega), show (k : Int) = d by omega]
theorem RLp.e8 (H : RLp col D g r M h n) : HL col D g 8 h.lc M ∧ (h.lc.length : Int) = r 619 ∧ ∀ k : Nat, k < h.lc.length → RW col (0, 0) D (h.lc.getD k 0) 3 (fun i => r (620 + 3 * k + i)) := ⟨H.2.2.2.2.2.2.2.2.2.2.1, H.2.2.2.2.2.2.2.2.2.2.2.2.2.2.2.2.1, H.2.2.2.2.2.2.2.2.2.2.2.2.2.2.2.2.2.2.2.2.2.2.2.2.2.2.1⟩
theorem RLp.m8 (H : RLp col D g r M h n) : ∀ y ∈ h.lc, y < dT D := fun y hy => by
  obtain ⟨i, hi, q⟩ := mem_getD hy
  have := H.e8.2.2 i hi
  rw [q] at this
  exact this.1.1.2.1
theorem l_add8 (H : RLp col D g (rC r a b c d e f) M h n) (hC : CBn (rC r a b c d e f)) (hv : e < 8) (hnn : n ≤ 12) (hM : M < 900000) (hT : dT D < 600000) (hS : dS D + 48 ≤ 7200000) (hx : RW col (0, 0) D x 3 (fun i => r (620 + 3 * e + i))) :
    ∃ D' col', fJx4a65c_add_9ea2d (dW D g 8) x D = some (1, D') ∧ RLp col' D' g (rC r a b c d (e + 1) f) (M + 1) ⟨h.lw, h.lr, h.lh, h.lm, h.lc ++ [x], h.la⟩ n ∧ (∀ y, y < dT D → col' y = col y) ∧ Ev (fun y => (col y).1 = g) 1 48 D D' := by
  have hC' := CBn_rC.mp hC
  have g151 := H.o.1
  have xO : gdE D x := Or.inr (Or.inl ⟨hx.1.1.1, hx.1.1.2.1, by rw [hx.1.1.2.2]; decide⟩)
  have hL := H.e8.1
  have hN : (h.lc.length : Int) = e := H.e8.2.1
  obtain ⟨D', w1, w2, w3, w4⟩ := s_add hL.1 (v := x) (by omega) (by omega) xO hT hS
  generalize hc : (fun y => if y < dT D then col y else (g, 8) : Col) = col'
  have c0 : ∀ y, y < dT D → col' y = col y := fun y hy => by rw [← hc]; exact if_pos hy
  have c9 : ∀ y, dT D ≤ y → col' y = (g, 8) := fun y hy => by rw [← hc]; exact if_neg (by omega)
  have H0 : RLp col' D g (rC r a b c d e f) M h n := H.keep (Ev.refl (fun _ => False) D) (fun _ _ _ z => z) (fun y hy _ => c0 y hy)
  have hT' : dT D ≤ 600000 := by omega
  have P := lst_P H0.e8.1
  have hno : ∀ y, y < dT D → col' y ≠ (g, 8) → ¬ FA D (dW D g 8) y := fun y hy hn q => hn (P y hy hT' q)
  have gno : ¬ FA D (dW D g 8) g := hno g H.o.2.1 (by
    rw [H0.co]
    intro q
    have : (0 : Int) = 8 := congrArg Prod.snd q
    omega)
  have gj : dW D' g 8 = dW D g 8 := w3.at H.o.2.1 gno 8
  have xc : col' x = (0, 0) := by rw [c0 x hx.1.1.2.1]; exact hx.2.1
  have xno : ¬ FA D (dW D g 8) x := hno x hx.1.1.2.1 (by
    rw [xc]
    intro q
    have : (0 : Int) = g := congrArg Prod.fst q
    omega)
  refine ⟨D', col', w1, ?_, c0, w3.mono (Int.le_refl _) (Int.le_refl _) (fun y hy q => by rw [← c0 y hy, P y hy hT' q])⟩
  refine H0.app hC w3 (fun y hy q => P y hy hT' q) (by decide) (by omega) (by omega) (fun p p0 p1 => by rw [rC_o p1, rC_o p1]) hnn (Or.inl ⟨by decide, rfl, rfl⟩) (Or.inl ⟨by decide, rfl, rfl⟩) (Or.inl ⟨by decide, rfl, rfl⟩) (Or.inl ⟨by decide, rfl, rfl⟩) (Or.inr ⟨⟨?_, ?_, ?_⟩, ?_, fun k hk => ?_⟩) (Or.inl ⟨by decide, rfl, rfl⟩)
  · rw [gj]; exact w2
  · rw [gj]; exact H0.e8.1.2.1
  · rw [gj]
    rcases w4 with q | q
    · rw [q]; exact H0.e8.1.2.2
    · exact Or.inr (c9 _ q)
  · show (((h.lc ++ [x]).length : Nat) : Int) = e + 1
    rw [List.length_append]
    show ((h.lc.length + 1 : Nat) : Int) = _
    omega
  · have hk' : k < h.lc.length + 1 := by have : k < (h.lc ++ [x]).length := hk; simpa using this
    show RW col' (0, 0) D' ((h.lc ++ [x]).getD k 0) 3 _
    rw [getD_snoc hk]
    by_cases ck : k < h.lc.length
    · rw [if_pos ck]
      have y := H0.e8.2.2 k ck
      have z := y.ev w3 (hno _ y.1.1.2.1 (by
        rw [y.2.1]
        intro q
        have : (0 : Int) = g := congrArg Prod.fst q
        omega))
      refine ⟨z.1, z.2.1, fun i hi => ?_⟩
      rw [z.2.2 i hi]
      show rC r a b c d e f (620 + 3 * (k : Int) + i) = rC r a b c d (e + 1) f (620 + 3 * (k : Int) + i)
      rw [rC_o (by unfold isC; omega), rC_o (by unfold isC; omega)]
    · rw [if_neg ck]
      have y := (hx.col c0).ev w3 xno
      refine ⟨y.1, y.2.1, fun i hi => ?_⟩
      rw [y.2.2 i hi]
      show r (620 + 3 * e + i) = rC r a b c d (e + 1) f (620 + 3 * (k : Int) + i)
      rw [rC_o (by unfold isC; omega), show (k : Int) = e by omega]
theorem RLp.e9 (H : RLp col D g r M h n) : HL col D g 9 h.la M ∧ (h.la.length : Int) = r 644 ∧ ∀ k : Nat, k < h.la.length → RW col (0, 0) D (h.la.getD k 0) 4 (fun i => r (645 + 4 * k + i)) := ⟨H.2.2.2.2.2.2.2.2.2.2.2.1, H.2.2.2.2.2.2.2.2.2.2.2.2.2.2.2.2.2.1, H.2.2.2.2.2.2.2.2.2.2.2.2.2.2.2.2.2.2.2.2.2.2.2.2.2.2.2⟩
theorem RLp.m9 (H : RLp col D g r M h n) : ∀ y ∈ h.la, y < dT D := fun y hy => by
  obtain ⟨i, hi, q⟩ := mem_getD hy
  have := H.e9.2.2 i hi
  rw [q] at this
  exact this.1.1.2.1
theorem l_add9 (H : RLp col D g (rC r a b c d e f) M h n) (hC : CBn (rC r a b c d e f)) (hv : f < 30) (hnn : n ≤ 12) (hM : M < 900000) (hT : dT D < 600000) (hS : dS D + 48 ≤ 7200000) (hx : RW col (0, 0) D x 4 (fun i => r (645 + 4 * f + i))) :
    ∃ D' col', fJx4a65c_add_9ea2d (dW D g 9) x D = some (1, D') ∧ RLp col' D' g (rC r a b c d e (f + 1)) (M + 1) ⟨h.lw, h.lr, h.lh, h.lm, h.lc, h.la ++ [x]⟩ n ∧ (∀ y, y < dT D → col' y = col y) ∧ Ev (fun y => (col y).1 = g) 1 48 D D' := by
  have hC' := CBn_rC.mp hC
  have g151 := H.o.1
  have xO : gdE D x := Or.inr (Or.inl ⟨hx.1.1.1, hx.1.1.2.1, by rw [hx.1.1.2.2]; decide⟩)
  have hL := H.e9.1
  have hN : (h.la.length : Int) = f := H.e9.2.1
  obtain ⟨D', w1, w2, w3, w4⟩ := s_add hL.1 (v := x) (by omega) (by omega) xO hT hS
  generalize hc : (fun y => if y < dT D then col y else (g, 9) : Col) = col'
  have c0 : ∀ y, y < dT D → col' y = col y := fun y hy => by rw [← hc]; exact if_pos hy
  have c9 : ∀ y, dT D ≤ y → col' y = (g, 9) := fun y hy => by rw [← hc]; exact if_neg (by omega)
  have H0 : RLp col' D g (rC r a b c d e f) M h n := H.keep (Ev.refl (fun _ => False) D) (fun _ _ _ z => z) (fun y hy _ => c0 y hy)
  have hT' : dT D ≤ 600000 := by omega
  have P := lst_P H0.e9.1
  have hno : ∀ y, y < dT D → col' y ≠ (g, 9) → ¬ FA D (dW D g 9) y := fun y hy hn q => hn (P y hy hT' q)
  have gno : ¬ FA D (dW D g 9) g := hno g H.o.2.1 (by
    rw [H0.co]
    intro q
    have : (0 : Int) = 9 := congrArg Prod.snd q
    omega)
  have gj : dW D' g 9 = dW D g 9 := w3.at H.o.2.1 gno 9
  have xc : col' x = (0, 0) := by rw [c0 x hx.1.1.2.1]; exact hx.2.1
  have xno : ¬ FA D (dW D g 9) x := hno x hx.1.1.2.1 (by
    rw [xc]
    intro q
    have : (0 : Int) = g := congrArg Prod.fst q
    omega)
  refine ⟨D', col', w1, ?_, c0, w3.mono (Int.le_refl _) (Int.le_refl _) (fun y hy q => by rw [← c0 y hy, P y hy hT' q])⟩
  refine H0.app hC w3 (fun y hy q => P y hy hT' q) (by decide) (by omega) (by omega) (fun p p0 p1 => by rw [rC_o p1, rC_o p1]) hnn (Or.inl ⟨by decide, rfl, rfl⟩) (Or.inl ⟨by decide, rfl, rfl⟩) (Or.inl ⟨by decide, rfl, rfl⟩) (Or.inl ⟨by decide, rfl, rfl⟩) (Or.inl ⟨by decide, rfl, rfl⟩) (Or.inr ⟨⟨?_, ?_, ?_⟩, ?_, fun k hk => ?_⟩)
  · rw [gj]; exact w2
  · rw [gj]; exact H0.e9.1.2.1
  · rw [gj]
    rcases w4 with q | q
    · rw [q]; exact H0.e9.1.2.2
    · exact Or.inr (c9 _ q)
  · show (((h.la ++ [x]).length : Nat) : Int) = f + 1
    rw [List.length_append]
    show ((h.la.length + 1 : Nat) : Int) = _
    omega
  · have hk' : k < h.la.length + 1 := by have : k < (h.la ++ [x]).length := hk; simpa using this
    show RW col' (0, 0) D' ((h.la ++ [x]).getD k 0) 4 _
    rw [getD_snoc hk]
    by_cases ck : k < h.la.length
    · rw [if_pos ck]
      have y := H0.e9.2.2 k ck
      have z := y.ev w3 (hno _ y.1.1.2.1 (by
        rw [y.2.1]
        intro q
        have : (0 : Int) = g := congrArg Prod.fst q
        omega))
      refine ⟨z.1, z.2.1, fun i hi => ?_⟩
      rw [z.2.2 i hi]
      show rC r a b c d e f (645 + 4 * (k : Int) + i) = rC r a b c d e (f + 1) (645 + 4 * (k : Int) + i)
      rw [rC_o (by unfold isC; omega), rC_o (by unfold isC; omega)]
    · rw [if_neg ck]
      have y := (hx.col c0).ev w3 xno
      refine ⟨y.1, y.2.1, fun i hi => ?_⟩
      rw [y.2.2 i hi]
      show r (645 + 4 * f + i) = rC r a b c d e (f + 1) (645 + 4 * (k : Int) + i)
      rw [rC_o (by unfold isC; omega), show (k : Int) = f by omega]
end GR
