set_option maxRecDepth 20000
/-! the law's hall as a row -/
abbrev Col : Type := Int → Int × Int
def HL (col : Col) (D : DD) (g j : Int) (l : List Int) (M : Int) : Prop := AL D (dW D g j) l M ∧ col (dW D g j) = (g, j) ∧ (dW D (dW D g j) 1 = 1000012 ∨ col (dW D (dW D g j) 1) = (g, j))
def RW (col : Col) (q : Int × Int) (D : DD) (a : Int) (n : Nat) (f : Int → Int) : Prop := (dO D a 20 ∧ (dH D a).2 = n) ∧ col a = q ∧ ∀ i : Nat, i < n → dW D a i = f i
def VT (L : List (Int × Int)) (f : Int → Int) (n : Int) : Prop := srt L ∧ (∀ q ∈ L, (0 ≤ q.1 ∧ q.1 < n) ∧ 0 ≤ q.2 ∧ q.2 ≤ 29) ∧ ∀ m v, 0 ≤ m → m < n → ((m, v) ∈ L ↔ f m = v ∧ v ≠ -1)
def RR (col : Col) (D : DD) (g e : Int) (f : Int → Int) (n M : Int) : Prop := dO D e 8 ∧ col e = (g, 15) ∧ (∀ i : Nat, i < 6 → dW D e i = f i) ∧ ∃ L, TM (fun a => col a = (g, e)) D (dW D e 6) L M ∧ VT L (fun m => f (6 + m)) n
abbrev HLs : Type := List Int × List Int × List Int × List Int × List Int × List Int
abbrev HLs.lw (h : HLs) : List Int := h.1
abbrev HLs.lr (h : HLs) : List Int := h.2.1
abbrev HLs.lh (h : HLs) : List Int := h.2.2.1
abbrev HLs.lm (h : HLs) : List Int := h.2.2.2.1
abbrev HLs.lc (h : HLs) : List Int := h.2.2.2.2.1
abbrev HLs.la (h : HLs) : List Int := h.2.2.2.2.2
abbrev RLh (col : Col) (D : DD) (g : Int) (r : Row) (M : Int) (h : HLs) : Prop :=
  (dO D g 7) ∧
  (col g = (g, 0)) ∧
  (dW D g 0 = r 0) ∧
  (dW D g 1 = r 1) ∧
  (dW D g 2 = r 2) ∧
  (dW D g 3 = r 3) ∧
  (HL col D g 4 h.lw M) ∧
  (HL col D g 5 h.lr M) ∧
  (HL col D g 6 h.lh M) ∧
  (HL col D g 7 h.lm M) ∧
  (HL col D g 8 h.lc M) ∧
  (HL col D g 9 h.la M) ∧
  ((h.lw.length : Int) = r 4) ∧
  ((h.lr.length : Int) = r 37) ∧
  ((h.lh.length : Int) = r 470) ∧
  ((h.lm.length : Int) = r 546) ∧
  ((h.lc.length : Int) = r 619) ∧
  ((h.la.length : Int) = r 644) ∧
  (h.lw.Nodup) ∧
  (h.lr.Nodup) ∧
  (h.lh.Nodup) ∧
  (h.lm.Nodup) ∧
  (∀ k : Nat, k < h.lw.length → RW col (g, 14) D (h.lw.getD k 0) 4 (fun i => r (5 + 4 * k + i))) ∧
  (∀ k : Nat, k < h.lr.length → RR col D g (h.lr.getD k 0) (fun i => r (38 + 18 * k + i)) (r 546) M) ∧
  (∀ k : Nat, k < h.lh.length → RW col (g, 16) D (h.lh.getD k 0) 4 (fun i => r (471 + 5 * k + i))) ∧
  (∀ k : Nat, k < h.lm.length → RW col (g, 17) D (h.lm.getD k 0) 6 (fun i => r (547 + 6 * k + i))) ∧
  (∀ k : Nat, k < h.lc.length → RW col (0, 0) D (h.lc.getD k 0) 3 (fun i => r (620 + 3 * k + i))) ∧
  (∀ k : Nat, k < h.la.length → RW col (0, 0) D (h.la.getD k 0) 4 (fun i => r (645 + 4 * k + i)))
theorem RLh.o {col : Col} {D : DD} {g : Int} {r : Row} {M : Int} {h : HLs} (H : RLh col D g r M h) : dO D g 7 := H.1
theorem RLh.co {col : Col} {D : DD} {g : Int} {r : Row} {M : Int} {h : HLs} (H : RLh col D g r M h) : col g = (g, 0) := H.2.1
theorem RLh.f0 {col : Col} {D : DD} {g : Int} {r : Row} {M : Int} {h : HLs} (H : RLh col D g r M h) : dW D g 0 = r 0 := H.2.2.1
theorem RLh.f1 {col : Col} {D : DD} {g : Int} {r : Row} {M : Int} {h : HLs} (H : RLh col D g r M h) : dW D g 1 = r 1 := H.2.2.2.1
theorem RLh.f2 {col : Col} {D : DD} {g : Int} {r : Row} {M : Int} {h : HLs} (H : RLh col D g r M h) : dW D g 2 = r 2 := H.2.2.2.2.1
theorem RLh.f3 {col : Col} {D : DD} {g : Int} {r : Row} {M : Int} {h : HLs} (H : RLh col D g r M h) : dW D g 3 = r 3 := H.2.2.2.2.2.1
theorem RLh.w {col : Col} {D : DD} {g : Int} {r : Row} {M : Int} {h : HLs} (H : RLh col D g r M h) : HL col D g 4 h.lw M := H.2.2.2.2.2.2.1
theorem RLh.rt {col : Col} {D : DD} {g : Int} {r : Row} {M : Int} {h : HLs} (H : RLh col D g r M h) : HL col D g 5 h.lr M := H.2.2.2.2.2.2.2.1
theorem RLh.hs {col : Col} {D : DD} {g : Int} {r : Row} {M : Int} {h : HLs} (H : RLh col D g r M h) : HL col D g 6 h.lh M := H.2.2.2.2.2.2.2.2.1
theorem RLh.mb {col : Col} {D : DD} {g : Int} {r : Row} {M : Int} {h : HLs} (H : RLh col D g r M h) : HL col D g 7 h.lm M := H.2.2.2.2.2.2.2.2.2.1
theorem RLh.cs {col : Col} {D : DD} {g : Int} {r : Row} {M : Int} {h : HLs} (H : RLh col D g r M h) : HL col D g 8 h.lc M := H.2.2.2.2.2.2.2.2.2.2.1
theorem RLh.ar {col : Col} {D : DD} {g : Int} {r : Row} {M : Int} {h : HLs} (H : RLh col D g r M h) : HL col D g 9 h.la M := H.2.2.2.2.2.2.2.2.2.2.2.1
theorem RLh.nw {col : Col} {D : DD} {g : Int} {r : Row} {M : Int} {h : HLs} (H : RLh col D g r M h) : (h.lw.length : Int) = r 4 := H.2.2.2.2.2.2.2.2.2.2.2.2.1
theorem RLh.nr {col : Col} {D : DD} {g : Int} {r : Row} {M : Int} {h : HLs} (H : RLh col D g r M h) : (h.lr.length : Int) = r 37 := H.2.2.2.2.2.2.2.2.2.2.2.2.2.1
theorem RLh.nh {col : Col} {D : DD} {g : Int} {r : Row} {M : Int} {h : HLs} (H : RLh col D g r M h) : (h.lh.length : Int) = r 470 := H.2.2.2.2.2.2.2.2.2.2.2.2.2.2.1
theorem RLh.nm {col : Col} {D : DD} {g : Int} {r : Row} {M : Int} {h : HLs} (H : RLh col D g r M h) : (h.lm.length : Int) = r 546 := H.2.2.2.2.2.2.2.2.2.2.2.2.2.2.2.1
theorem RLh.nc {col : Col} {D : DD} {g : Int} {r : Row} {M : Int} {h : HLs} (H : RLh col D g r M h) : (h.lc.length : Int) = r 619 := H.2.2.2.2.2.2.2.2.2.2.2.2.2.2.2.2.1
theorem RLh.na {col : Col} {D : DD} {g : Int} {r : Row} {M : Int} {h : HLs} (H : RLh col D g r M h) : (h.la.length : Int) = r 644 := H.2.2.2.2.2.2.2.2.2.2.2.2.2.2.2.2.2.1
theorem RLh.dw {col : Col} {D : DD} {g : Int} {r : Row} {M : Int} {h : HLs} (H : RLh col D g r M h) : h.lw.Nodup := H.2.2.2.2.2.2.2.2.2.2.2.2.2.2.2.2.2.2.1
theorem RLh.dr {col : Col} {D : DD} {g : Int} {r : Row} {M : Int} {h : HLs} (H : RLh col D g r M h) : h.lr.Nodup := H.2.2.2.2.2.2.2.2.2.2.2.2.2.2.2.2.2.2.2.1
theorem RLh.dh {col : Col} {D : DD} {g : Int} {r : Row} {M : Int} {h : HLs} (H : RLh col D g r M h) : h.lh.Nodup := H.2.2.2.2.2.2.2.2.2.2.2.2.2.2.2.2.2.2.2.2.1
theorem RLh.dm {col : Col} {D : DD} {g : Int} {r : Row} {M : Int} {h : HLs} (H : RLh col D g r M h) : h.lm.Nodup := H.2.2.2.2.2.2.2.2.2.2.2.2.2.2.2.2.2.2.2.2.2.1
theorem RLh.ew {col : Col} {D : DD} {g : Int} {r : Row} {M : Int} {h : HLs} (H : RLh col D g r M h) : ∀ k : Nat, k < h.lw.length → RW col (g, 14) D (h.lw.getD k 0) 4 (fun i => r (5 + 4 * k + i)) := H.2.2.2.2.2.2.2.2.2.2.2.2.2.2.2.2.2.2.2.2.2.2.1
theorem RLh.er {col : Col} {D : DD} {g : Int} {r : Row} {M : Int} {h : HLs} (H : RLh col D g r M h) : ∀ k : Nat, k < h.lr.length → RR col D g (h.lr.getD k 0) (fun i => r (38 + 18 * k + i)) (r 546) M := H.2.2.2.2.2.2.2.2.2.2.2.2.2.2.2.2.2.2.2.2.2.2.2.1
theorem RLh.eh {col : Col} {D : DD} {g : Int} {r : Row} {M : Int} {h : HLs} (H : RLh col D g r M h) : ∀ k : Nat, k < h.lh.length → RW col (g, 16) D (h.lh.getD k 0) 4 (fun i => r (471 + 5 * k + i)) := H.2.2.2.2.2.2.2.2.2.2.2.2.2.2.2.2.2.2.2.2.2.2.2.2.1
theorem RLh.em {col : Col} {D : DD} {g : Int} {r : Row} {M : Int} {h : HLs} (H : RLh col D g r M h) : ∀ k : Nat, k < h.lm.length → RW col (g, 17) D (h.lm.getD k 0) 6 (fun i => r (547 + 6 * k + i)) := H.2.2.2.2.2.2.2.2.2.2.2.2.2.2.2.2.2.2.2.2.2.2.2.2.2.1
theorem RLh.ec {col : Col} {D : DD} {g : Int} {r : Row} {M : Int} {h : HLs} (H : RLh col D g r M h) : ∀ k : Nat, k < h.lc.length → RW col (0, 0) D (h.lc.getD k 0) 3 (fun i => r (620 + 3 * k + i)) := H.2.2.2.2.2.2.2.2.2.2.2.2.2.2.2.2.2.2.2.2.2.2.2.2.2.2.1
theorem RLh.ea {col : Col} {D : DD} {g : Int} {r : Row} {M : Int} {h : HLs} (H : RLh col D g r M h) : ∀ k : Nat, k < h.la.length → RW col (0, 0) D (h.la.getD k 0) 4 (fun i => r (645 + 4 * k + i)) := H.2.2.2.2.2.2.2.2.2.2.2.2.2.2.2.2.2.2.2.2.2.2.2.2.2.2.2
theorem RW.ev {col : Col} {q : Int × Int} {D D' : DD} {a : Int} {n : Nat} {f : Int → Int} {P : Int → Prop} {c s : Int} (h : RW col q D a n f) (E : Ev P c s D D') (hp : ¬ P a) : RW col q D' a n f :=
  ⟨⟨E.dO h.1.1, by rw [E.sz h.1.1]; exact h.1.2⟩, h.2.1, fun i hi => by rw [E.at h.1.1.2.1 hp]; exact h.2.2 i hi⟩
theorem RW.col {col col' : Col} {q : Int × Int} {D : DD} {a : Int} {n : Nat} {f : Int → Int} (h : RW col q D a n f) (hc : ∀ a, a < dT D → col' a = col a) : RW col' q D a n f := ⟨h.1, by rw [hc a h.1.1.2.1]; exact h.2.1, h.2.2⟩
theorem RR.ev {col : Col} {D D' : DD} {g e n M : Int} {f : Int → Int} {P : Int → Prop} {c s : Int} (h : RR col D g e f n M) (E : Ev P c s D D') (hp : ¬ P e) (hq : ∀ a, a < dT D → col a = (g, e) → ¬ P a) : RR col D' g e f n M := by
  obtain ⟨h1, h2, h3, L, h4, h5⟩ := h
  refine ⟨E.dO h1, h2, fun i hi => by rw [E.at h1.2.1 hp]; exact h3 i hi, L, ?_, h5⟩
  rw [E.at h1.2.1 hp]
  exact h4.ev E hq
theorem RR.col {col col' : Col} {D : DD} {g e n M : Int} {f : Int → Int} (h : RR col D g e f n M) (hc : ∀ a, a < dT D → col' a = col a) : RR col' D g e f n M := by
  obtain ⟨h1, h2, h3, L, h4, h5⟩ := h
  exact ⟨h1, by rw [hc e h1.2.1]; exact h2, h3, L, h4.mono (fun a ha q => by rw [hc a ha]; exact q) (Int.le_refl _), h5⟩
theorem AL.arrlt {D : DD} {e : Int} {l : List Int} {m : Int} (h : AL D e l m) : dW D e 1 = 1000012 ∨ dW D e 1 < dT D := h.2.2.2.2.imp And.left (fun q => q.1.1.2.1)
theorem HL.ev {col : Col} {D D' : DD} {g j M : Int} {l : List Int} {P : Int → Prop} {c s : Int} (h : HL col D g j l M) (E : Ev P c s D D') (hg : g < dT D) (hp : ¬ P g) (hq : ∀ a, a < dT D → col a = (g, j) → ¬ P a) : HL col D' g j l M := by
  obtain ⟨h1, h2, h3⟩ := h
  have e : dW D' g j = dW D g j := E.at hg hp j
  have h4 : dW D' (dW D g j) 1 = dW D (dW D g j) 1 := E.at h1.1.2.1 (hq _ h1.1.2.1 h2) 1
  refine ⟨?_, by rw [e]; exact h2, by rw [e, h4]; exact h3⟩
  rw [e]
  obtain ⟨a1, a2, a3, a4, a5⟩ := h1
  have a := fun k => E.at a1.2.1 (hq _ a1.2.1 h2) k
  refine ⟨E.dO a1, by rw [a]; exact a2, by rw [a]; exact a3, a4, ?_⟩
  rw [a]
  rcases a5 with q | q
  · exact Or.inl q
  · refine Or.inr (q.ev E (hq _ q.1.1.2.1 (h3.resolve_left (fun q' => ?_))))
    have := q.1.2
    have := q.1.1.2.1
    omega
theorem HL.col {col col' : Col} {D : DD} {g j M : Int} {l : List Int} (h : HL col D g j l M) (hc : ∀ a, a < dT D → col' a = col a) : HL col' D g j l M := by
  obtain ⟨h1, h2, h3⟩ := h
  refine ⟨h1, by rw [hc _ h1.1.2.1]; exact h2, ?_⟩
  rcases h1.arrlt with q | q
  · exact Or.inl q
  · exact h3.imp id (fun p => by rw [hc _ q]; exact p)
/-- a hall stays while others are changed -/
theorem RLh.keep {col col' : Col} {D D' : DD} {g : Int} {r : Row} {M : Int} {h : HLs} {P : Int → Prop} {c s : Int} (H : RLh col D g r M h) (E : Ev P c s D D') (hP : ∀ a, a < dT D → ((col a).1 = g ∨ col a = (0, 0)) → ¬ P a) (hc : ∀ a, a < dT D → col' a = col a) : RLh col' D' g r M h := by
  have hg : ¬ P g := hP g H.o.2.1 (Or.inl (by rw [H.co]))
  have hq : ∀ j a, a < dT D → col' a = (g, j) → ¬ P a := fun j a ha q => hP a ha (Or.inl (by rw [← hc a ha, q]))
  have el : ∀ j l, HL col D g j l M → HL col' D' g j l M := fun j l q => (q.col hc).ev E H.o.2.1 hg (hq j)
  have ew : ∀ q a n f, (q.1 = g ∨ q = (0, 0)) → RW col q D a n f → RW col' q D' a n f := fun q a n f hq h => (h.col hc).ev E (hP a h.1.1.2.1 (hq.imp (fun p => by rw [h.2.1]; exact p) (fun p => by rw [h.2.1]; exact p)))
  have at' : ∀ j, dW D' g j = dW D g j := fun j => E.at H.o.2.1 hg j
  refine ⟨E.dO H.o, by rw [hc g H.o.2.1]; exact H.co, by rw [at']; exact H.f0, by rw [at']; exact H.f1, by rw [at']; exact H.f2, by rw [at']; exact H.f3, el _ _ H.w, el _ _ H.rt, el _ _ H.hs, el _ _ H.mb, el _ _ H.cs, el _ _ H.ar, H.nw, H.nr, H.nh, H.nm, H.nc, H.na, H.dw, H.dr, H.dh, H.dm,
    fun k hk => ew _ _ _ _ (Or.inl rfl) (H.ew k hk), fun k hk => ?_, fun k hk => ew _ _ _ _ (Or.inl rfl) (H.eh k hk), fun k hk => ew _ _ _ _ (Or.inl rfl) (H.em k hk), fun k hk => ew _ _ _ _ (Or.inr rfl) (H.ec k hk), fun k hk => ew _ _ _ _ (Or.inr rfl) (H.ea k hk)⟩
  have q := H.er k hk
  exact (q.col hc).ev E (hP _ q.1.2.1 (Or.inl (by rw [q.2.1]))) (fun a ha p => hq _ a ha p)
theorem RLh.tmp {col : Col} {D D' : DD} {g : Int} {r : Row} {M : Int} {h : HLs} {c s : Int} (H : RLh col D g r M h) (E : Ev (fun _ => False) c s D D') : RLh col D' g r M h := H.keep E (fun _ _ _ q => q) (fun _ _ => rfl)
/-! readings -/
theorem RW.at {col : Col} {q : Int × Int} {D : DD} {a : Int} {n : Nat} {f : Int → Int} (h : RW col q D a n f) {i : Int} (hi : 0 ≤ i ∧ i < n) : dW D a i = f i := by
  have := h.2.2 i.toNat (by omega)
  rw [Int.toNat_of_nonneg hi.1] at this
  exact this
theorem RW.rng {col : Col} {q : Int × Int} {D : DD} {a : Int} {n : Nat} {f : Int → Int} (h : RW col q D a n f) {i : Int} (hi : 0 ≤ i ∧ i < n) : 0 ≤ i ∧ i < ((dH D a).2 : Int) := ⟨hi.1, by rw [h.1.2]; exact hi.2⟩
section RD
variable {col : Col} {D : DD} {g : Int} {r : Row} {M B : Int} {h : HLs}
theorem RLh.gw (H : RLh col D g r M h) {w : Int} (hw : 0 ≤ w ∧ w < r 4) : fJx4a65c_get_915e3 (dW D g 4) w D = some (h.lw.getD w.toNat 0) ∧ RW col (g, 14) D (h.lw.getD w.toNat 0) 4 (fun i => r (5 + 4 * w + i)) := by
  have hn := H.nw
  have e : ((w.toNat : Nat) : Int) = w := Int.toNat_of_nonneg hw.1
  have q := s_get H.w.1 (i := w.toNat) (by omega)
  rw [e] at q
  have p := H.ew w.toNat (by omega)
  rw [e] at p
  exact ⟨q, p⟩
theorem RLh.gh (H : RLh col D g r M h) {w : Int} (hw : 0 ≤ w ∧ w < r 470) : fJx4a65c_get_915e3 (dW D g 6) w D = some (h.lh.getD w.toNat 0) ∧ RW col (g, 16) D (h.lh.getD w.toNat 0) 4 (fun i => r (471 + 5 * w + i)) := by
  have hn := H.nh
  have e : ((w.toNat : Nat) : Int) = w := Int.toNat_of_nonneg hw.1
  have q := s_get H.hs.1 (i := w.toNat) (by omega)
  rw [e] at q
  have p := H.eh w.toNat (by omega)
  rw [e] at p
  exact ⟨q, p⟩
theorem RLh.gm (H : RLh col D g r M h) {w : Int} (hw : 0 ≤ w ∧ w < r 546) : fJx4a65c_get_915e3 (dW D g 7) w D = some (h.lm.getD w.toNat 0) ∧ RW col (g, 17) D (h.lm.getD w.toNat 0) 6 (fun i => r (547 + 6 * w + i)) := by
  have hn := H.nm
  have e : ((w.toNat : Nat) : Int) = w := Int.toNat_of_nonneg hw.1
  have q := s_get H.mb.1 (i := w.toNat) (by omega)
  rw [e] at q
  have p := H.em w.toNat (by omega)
  rw [e] at p
  exact ⟨q, p⟩
theorem RLh.gc (H : RLh col D g r M h) {w : Int} (hw : 0 ≤ w ∧ w < r 619) : fJx4a65c_get_915e3 (dW D g 8) w D = some (h.lc.getD w.toNat 0) ∧ RW col (0, 0) D (h.lc.getD w.toNat 0) 3 (fun i => r (620 + 3 * w + i)) := by
  have hn := H.nc
  have e : ((w.toNat : Nat) : Int) = w := Int.toNat_of_nonneg hw.1
  have q := s_get H.cs.1 (i := w.toNat) (by omega)
  rw [e] at q
  have p := H.ec w.toNat (by omega)
  rw [e] at p
  exact ⟨q, p⟩
theorem RLh.gr (H : RLh col D g r M h) {w : Int} (hw : 0 ≤ w ∧ w < r 37) : fJx4a65c_get_915e3 (dW D g 5) w D = some (h.lr.getD w.toNat 0) ∧ RR col D g (h.lr.getD w.toNat 0) (fun i => r (38 + 18 * w + i)) (r 546) M := by
  have hn := H.nr
  have e : ((w.toNat : Nat) : Int) = w := Int.toNat_of_nonneg hw.1
  have q := s_get H.rt.1 (i := w.toNat) (by omega)
  rw [e] at q
  have p := H.er w.toNat (by omega)
  rw [e] at p
  exact ⟨q, p⟩
theorem l_isClosed (H : RLh col D g r M h) {w : Int} (hw : 0 ≤ w ∧ w < r 4) : fX6_isClosed g w D = some (bI (sClosed r w)) := by
  obtain ⟨q, p⟩ := H.gw hw
  unfold fX6_isClosed
  rw [if_pos H.o, q]
  simp only [Option.bind_some]
  rw [if_pos H.w.1.1, if_pos p.1.1, if_pos (p.rng ⟨by decide, by decide⟩), p.at (i := 3) ⟨by decide, by decide⟩, H.f3]
  unfold bI
  split <;> rfl
theorem l_inForce (H : RLh col D g r M h) (hI : IH B r) {k d : Int} (hk : 0 ≤ k ∧ k < r 470) : fX6_inForce g k d D = some (bI (sForce r k d)) := by
  obtain ⟨q, p⟩ := H.gh hk
  have i0 := hI.2.2.2.1 k hk.1 hk.2
  have i1 := i0.1
  have i2 := i0.2.1
  have i3 := i0.2.2.1
  clear i0
  unfold fX6_inForce
  rw [if_pos H.o, q]
  simp only [Option.bind_some]
  rw [if_pos H.hs.1.1, if_pos p.1.1, if_pos (p.rng (i := 3) ⟨by decide, by decide⟩), p.at (i := 3) ⟨by decide, by decide⟩]
  by_cases c : r (471 + 5 * k + 3) = 0
  · rw [if_pos c, if_pos p.1.1, if_pos (p.rng (i := 1) ⟨by decide, by decide⟩), if_pos p.1.1, if_pos (p.rng (i := 2) ⟨by decide, by decide⟩), p.at (i := 1) ⟨by decide, by decide⟩, p.at (i := 2) ⟨by decide, by decide⟩, if_pos (by constructor <;> omega)]
    unfold bI
    by_cases c2 : d < r (471 + 5 * k + 1) + r (471 + 5 * k + 2)
    · rw [if_pos c2, if_pos ⟨fun q => by have q : r (471 + 5 * k + 3) = 1 := q; omega, by show d < r (471 + 5 * k + 2) + r (471 + 5 * k + 1); omega⟩]
    · rw [if_neg c2, if_neg (fun q => c2 (by have q2 : d < r (471 + 5 * k + 2) + r (471 + 5 * k + 1) := q.2; omega))]
  · rw [if_neg c, bI_f (fun q => q.1 (by show r (471 + 5 * k + 3) = 1; omega))]
end RD
