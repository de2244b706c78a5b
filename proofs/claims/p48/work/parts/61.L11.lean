set_option maxRecDepth 20000
/-! the ballot of a route -/
theorem s_valueOf {v : Int} {D : DD} (h : -128 ≤ v ∧ v ≤ 127) : fJ6_valueOf_2dffe v D = some (1000428 + v) := by
  unfold fJ6_valueOf_2dffe
  rw [if_neg (by omega), if_neg (by omega), if_pos ⟨by omega, by omega⟩]
  congr 1
  omega
theorem s_intValue {v : Int} {D : DD} (h : isBox (1000428 + v)) : fJ6_intValue_8abf5 (1000428 + v) D = some v := by
  unfold fJ6_intValue_8abf5
  rw [if_pos h]
  congr 1
  omega
abbrev bx (v : Int) : Int := 1000428 + v
theorem bx_box {v : Int} (h : -128 ≤ v ∧ v ≤ 127) : isBox (bx v) := ⟨by show (1000300 : Int) ≤ 1000428 + v; omega, by show (1000428 + v : Int) < 1000556; omega⟩
theorem bx_gd {D : DD} {v : Int} (h : isBox (bx v)) : gdE D (bx v) := Or.inr (Or.inr (Or.inr h))
theorem s_addB2 {P : Int → Prop} {D : DD} {a v : Int} {bl : List Int} {m : Int} (h : AL D a (bl.map bx) m) (hP : ∀ b, dT D ≤ b → P b) (ha : P a) (hr : dW D a 1 = 1000012 ∨ P (dW D a 1)) (hl : bl.length ≤ 30) (hm : m < 900000) (hv : -128 ≤ v ∧ v ≤ 127) (hT : dT D < 600000) (hS : dS D + 48 ≤ 7200000) :
    ∃ D', fJx4a65c_add_9ea2d a (bx v) D = some (1, D') ∧ AL D' a ((bl ++ [v]).map bx) (m + 1) ∧ (dW D' a 1 = 1000012 ∨ P (dW D' a 1)) ∧ Ev P 1 48 D D' := by
  obtain ⟨D', w1, w2, w3, w4⟩ := s_add (v := bx v) h (by rw [List.length_map]; omega) (by omega) (bx_gd (bx_box hv)) hT hS
  have E : Ev P 1 48 D D' := w3.mono (Int.le_refl _) (Int.le_refl _) (fun b hb q => by
    rcases q with q | q
    · rw [q]; exact ha
    · rcases hr with p | p
      · omega
      · rw [q]; exact p)
  refine ⟨D', w1, by rw [List.map_append]; exact w2, ?_, E⟩
  rcases w4 with q | q
  · rw [q]; exact hr
  · exact Or.inr (hP _ q)
theorem AL.mono {D : DD} {e : Int} {l : List Int} {m m' : Int} (h : AL D e l m) (hm : m ≤ m') (h9 : m' < 1000000) : AL D e l m' := ⟨h.1, h.2.1, ⟨h.2.2.1.1, by have := h.2.2.1.2.1; omega, h9⟩, h.2.2.2⟩
theorem HL.mono {col : Col} {D : DD} {g j M M' : Int} {l : List Int} (h : HL col D g j l M) (hm : M ≤ M') (h9 : M' < 1000000) : HL col D g j l M' := ⟨h.1.mono hm h9, h.2⟩
theorem RR.mono {col : Col} {D : DD} {g e n M M' : Int} {f : Int → Int} (h : RR col D g e f n M) (hm : M ≤ M') : RR col D g e f n M' := by
  obtain ⟨h1, h2, h3, L, h4, h5⟩ := h
  exact ⟨h1, h2, h3, L, h4.mono (fun _ _ q => q) hm, h5⟩
section BA
variable {col : Col} {D D' : DD} {g : Int} {r r' : Row} {M M' B : Int} {h : HLs}
theorem RLh.mono (H : RLh col D g r M h) (hm : M ≤ M') (h9 : M' < 1000000) : RLh col D g r M' h :=
  ⟨H.o, H.co, H.f0, H.f1, H.f2, H.f3, H.w.mono hm h9, H.rt.mono hm h9, H.hs.mono hm h9, H.mb.mono hm h9, H.cs.mono hm h9, H.ar.mono hm h9, H.nw, H.nr, H.nh, H.nm, H.nc, H.na, H.dw, H.dr, H.dh, H.dm, H.ew, fun k hk => (H.er k hk).mono hm, H.eh, H.em, H.ec, H.ea⟩
theorem nodup_getD {l : List Int} (h : l.Nodup) {i j : Nat} (hi : i < l.length) (hj : j < l.length) (hne : i ≠ j) : l.getD i 0 ≠ l.getD j 0 := by
  rw [List.getD_eq_getElem?_getD, List.getD_eq_getElem?_getD, List.getElem?_eq_getElem hi, List.getElem?_eq_getElem hj]
  exact fun q => hne ((List.getElem_inj h).mp q)
/-- the votes of one route change -/
theorem RLh.votes (H : RLh col D g r M h) {k : Nat} (hk : k < h.lr.length) {c s : Int} (E : Ev (fun a => col a = (g, h.lr.getD k 0)) c s D D') {L : List (Int × Int)} (T1 : TM (fun a => col a = (g, h.lr.getD k 0)) D' (dW D (h.lr.getD k 0) 6) L M') (T2 : VT L (fun m => r' (38 + 18 * k + (6 + m))) (r' 546)) (hr : ∀ j : Int, (j < 38 + 18 * k + 6 ∨ 38 + 18 * k + 18 ≤ j) → r' j = r j) (hI : IHn B r) (hm : M ≤ M') (h9 : M' < 1000000) : RLh col D' g r' M' h := by
  have H1 := H.mono hm h9
  have e151 : 151 ≤ h.lr.getD k 0 := (H.er k hk).1.1
  have hq : ∀ j a, j < 18 → col a = (g, j) → ¬ col a = (g, h.lr.getD k 0) := fun j a hj q p => by
    rw [q] at p
    have := congrArg Prod.snd p
    have : j = h.lr.getD k 0 := this
    omega
  have hg : ¬ col g = (g, h.lr.getD k 0) := fun p => by
    rw [H.co] at p
    have : (0 : Int) = h.lr.getD k 0 := congrArg Prod.snd p
    omega
  have g151 := H.o.1
  have at' : ∀ j, dW D' g j = dW D g j := fun j => E.at H.o.2.1 hg j
  have el : ∀ j l, j < 18 → HL col D g j l M' → HL col D' g j l M' := fun j l hj q => q.ev E H.o.2.1 hg (fun a _ p => hq j a hj p)
  have ew : ∀ j a n f f', j < 18 → (∀ i : Nat, i < n → f' i = f i) → RW col (g, j) D a n f → RW col (g, j) D' a n f' := fun j a n f f' hj hf h => by
    have := h.ev E (hq j a hj h.2.1)
    exact ⟨this.1, this.2.1, fun i hi => by rw [this.2.2 i hi, hf i hi]⟩
  have e0 : ∀ a n f f', (∀ i : Nat, i < n → f' i = f i) → RW col (0, 0) D a n f → RW col (0, 0) D' a n f' := fun a n f f' hf h0 => by
    have := h0.ev E (fun p => by
      have p : col a = (g, h.lr.getD k 0) := p
      rw [h0.2.1] at p
      have : (0 : Int) = g := congrArg Prod.fst p
      omega)
    exact ⟨this.1, this.2.1, fun i hi => by rw [this.2.2 i hi, hf i hi]⟩
  have nw := H.nw
  have nr := H.nr
  have i1 := hI.2.1
  have i2 := hI.2.2.2.1
  have i3 : r 546 ≤ 12 := hI.2.2.2.2.2.2.2.1
  have n546 : r' 546 = r 546 := hr 546 (by omega)
  have nh := H.nh
  have nm := H.nm
  have nc := H.nc
  have na := H.na
  refine ⟨E.dO H.o, H.co, by rw [at', hr 0 (by omega)]; exact H.f0, by rw [at', hr 1 (by omega)]; exact H.f1, by rw [at', hr 2 (by omega)]; exact H.f2, by rw [at', hr 3 (by omega)]; exact H.f3, el _ _ (by decide) H1.w, el _ _ (by decide) H1.rt, el _ _ (by decide) H1.hs, el _ _ (by decide) H1.mb, el _ _ (by decide) H1.cs, el _ _ (by decide) H1.ar,
    by rw [hr 4 (by omega)]; exact H.nw, by rw [hr 37 (by omega)]; exact H.nr, by rw [hr 470 (by omega)]; exact H.nh, by rw [hr 546 (by omega)]; exact H.nm, by rw [hr 619 (by omega)]; exact H.nc, by rw [hr 644 (by omega)]; exact H.na, H.dw, H.dr, H.dh, H.dm,
    fun i hi => ew 14 _ _ _ _ (by decide) (fun j hj => ?_) (H.ew i hi), fun i hi => ?_, fun i hi => ew 16 _ _ _ _ (by decide) (fun j hj => ?_) (H.eh i hi), fun i hi => ew 17 _ _ _ _ (by decide) (fun j hj => ?_) (H.em i hi), fun i hi => e0 _ _ _ _ (fun j hj => ?_) (H.ec i hi), fun i hi => e0 _ _ _ _ (fun j hj => ?_) (H.ea i hi)⟩
  · show r' (5 + 4 * i + j) = r (5 + 4 * i + j)
    exact hr _ (by omega)
  · have q := H1.er i hi
    have q15 : ¬ col (h.lr.getD i 0) = (g, h.lr.getD k 0) := fun p => by
      rw [q.2.1] at p
      have : (15 : Int) = h.lr.getD k 0 := congrArg Prod.snd p
      omega
    by_cases c : i = k
    · subst c
      refine ⟨E.dO q.1, q.2.1, fun j hj => ?_, L, ?_, T2⟩
      · rw [E.at q.1.2.1 q15, q.2.2.1 j hj]
        exact (hr _ (by omega)).symm
      · rw [E.at q.1.2.1 q15]
        exact T1
    · have ne := nodup_getD H.dr hi hk c
      obtain ⟨g1, g2, g3, L', g4, g5, g6, g7⟩ := q.ev E q15 (fun a _ p p' => by
        have p' : col a = (g, h.lr.getD k 0) := p'
        rw [p] at p'
        exact ne (congrArg Prod.snd p'))
      refine ⟨g1, g2, fun j hj => ?_, L', g4, g5, ?_, ?_⟩
      · rw [g3 j hj]
        exact (hr _ (by omega)).symm
      · rw [n546]; exact g6
      · intro m v m0 m1
        rw [n546] at m1
        rw [g7 m v m0 m1]
        show (r (38 + 18 * i + (6 + m)) = v ∧ v ≠ -1) ↔ (r' (38 + 18 * i + (6 + m)) = v ∧ v ≠ -1)
        rw [hr _ (by omega)]
  · show r' (471 + 5 * i + j) = r (471 + 5 * i + j)
    exact hr _ (by omega)
  · show r' (547 + 6 * i + j) = r (547 + 6 * i + j)
    exact hr _ (by omega)
  · show r' (620 + 3 * i + j) = r (620 + 3 * i + j)
    exact hr _ (by omega)
  · show r' (645 + 4 * i + j) = r (645 + 4 * i + j)
    exact hr _ (by omega)
end BA
