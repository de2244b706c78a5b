set_option maxRecDepth 20000
section MN
variable {col : Col} {D : DD} {g : Int} {r : Row} {M B : Int} {h : HLs}
theorem VT_len {L : List (Int × Int)} {f : Int → Int} {n : Int} (h : VT L f n) (hn : 0 ≤ n) : (L.length : Int) = sCnt n (fun m => f m ≠ -1 ∧ True) := by
  have q := cnt_VT h (fun _ => True) n.toNat (by omega)
  rw [Int.toNat_of_nonneg hn] at q
  rw [← q]
  congr 2
  symm
  rw [List.filter_eq_self]
  intro x hx
  have := (h.2.1 x hx).1.2
  simp [this]
theorem tm_of {c : Int → Prop} {D : DD} {m M : Int} {L : List (Int × Int)} (h : TM c D m L M) : ∃ t, TMt c D m t M ∧ inord t = L := h.to
theorem AB.mono {P Q : Int → Prop} {D : DD} {a m : Int} {bl : List Int} (h : AB P D a bl m) (hq : ∀ b, P b → Q b) : AB Q D a bl m := ⟨h.1, hq _ h.2.1, h.2.2.imp id (hq _)⟩
/-- what law's mean gives: the sorted ballot's sum and number -/
theorem l_mean0 (H : RLh col D g r M h) (hI : IH B r) {k : Nat} (hk : k < h.lr.length) (hT : dT D + 40 < 600000) (hS : dS D + 1500 ≤ 7200000) :
    ∃ u D' col' L l', fX6_mean g (h.lr.getD k 0) 0 0 D = some (u, D') ∧ RLh col' D' g r M h ∧ (∀ a, a < dT D → col' a = col a) ∧ (dO D' u 20 ∧ (dH D' u).2 = 2) ∧ VT L (fun m => r (38 + 18 * k + (6 + m))) (r 546) ∧ L.length ≤ 12 ∧ l'.Perm (bal L (r 1) (r (38 + 18 * k + 1))) ∧ sorted l' ∧ dW D' u 0 = cutS l' (l'.length * (r 0).toNat / 100) (l'.length - l'.length * (r 0).toNat / 100 - l'.length * (r 0).toNat / 100) ∧ dW D' u 1 = ((l'.length - l'.length * (r 0).toNat / 100 - l'.length * (r 0).toNat / 100 : Nat) : Int) ∧ Ev (fun a => col a = (g, h.lr.getD k 0)) 40 1500 D D' := by
  have hn := hI.1
  have hr := hI.2.2.1 k (by omega) (by have := H.nr; omega)
  have i546 : r 546 ≤ 12 := hn.2.2.2.2.2.2.2.1
  have i1 : 0 ≤ r 1 ∧ r 1 ≤ 10 := by unfold IHn at hn; omega
  have i0 : 0 ≤ r 0 ∧ r 0 ≤ 40 := by unfold IHn at hn; omega
  have is : 0 ≤ r (38 + 18 * k + 1) ∧ r (38 + 18 * k + 1) ≤ 29 := hr.2.1
  generalize he : h.lr.getD k 0 = e
  have hb := dO_gt H.o
  have g151 := H.o.1
  -- the list
  have n1 : dO (dnew D 9 3) (dT D) 9 := dO_nw hb
  have E1 : Ev (fun _ => False) 1 3 D (dnew D 9 3) := Ev.dnew D
  have z0 : ∀ j, dW (dnew D 9 3) (dT D) j = 0 := fun j => by rw [dnew_at, if_pos rfl]
  obtain ⟨D3, a1, a2, a3, a4⟩ := s_alInit n1
  have a2 := a2 (z0 0) (z0 2)
  have E3 : Ev (fun _ => False) 1 3 D D3 := (E1.trans a3 (fun b hb' z => by omega)).mono (by omega) (by omega) (fun _ _ z => z)
  have t3 : dT D < dT D3 := a2.1.2.1
  -- the view
  generalize hc3 : (fun a => if a < dT D then col a else (-1, -1) : Col) = col3
  have c3 : ∀ a, a < dT D → col3 a = col a := fun a ha => by rw [← hc3]; exact if_pos ha
  have c3n : ∀ a, dT D ≤ a → col3 a = (-1, -1) := fun a ha => by rw [← hc3]; exact if_neg (by omega)
  have H3 : RLh col3 D3 g r M h := H.keep E3 (fun _ _ _ z => z) c3
  have R3 := H3.er k hk
  rw [he] at R3
  obtain ⟨r1, r2, r3, L, r4, r5⟩ := R3
  generalize hm : dW D3 e 6 = m at r4
  obtain ⟨t, T3, ht⟩ := r4.to
  have b1 := E3.2.1
  have b2 := E3.2.2.2.1
  obtain ⟨vs, D5, v1, v2, v3, v4, v5⟩ := s_values T3 (by omega) (by omega)
  have b3 := v5.2.1
  have b4 := v5.2.2.2.1
  have b5 := v5.1
  generalize hc : (fun a => if dT D3 ≤ a ∧ a < dT D5 then (g, e) else col3 a : Col) = col'
  have e151 : 151 ≤ e := r1.1
  have c0 : ∀ a, a < dT D3 → col' a = col3 a := fun a ha => by rw [← hc]; exact if_neg (by omega)
  have cv : ∀ a, dT D3 ≤ a → a < dT D5 → col' a = (g, e) := fun a h1 h2 => by rw [← hc]; exact if_pos ⟨h1, h2⟩
  have c9 : ∀ a, dT D5 ≤ a → col' a = (-1, -1) := fun a ha => by rw [← hc]; exact (if_neg (by omega)).trans (c3n a (by omega))
  have H3' : RLh col' D3 g r M h := H3.keep (Ev.refl (fun _ => False) D3) (fun _ _ _ z => z) c0
  have hmlt : m < dT D3 := r4.1.1.2.1
  have mcol3 : col3 m = (g, e) := r4.1.2
  have mcol : col' m = (g, e) := by rw [c0 m hmlt]; exact mcol3
  have mD : m < dT D := by
    by_cases c : m < dT D
    · exact c
    · have := c3n m (by omega)
      rw [mcol3] at this
      have : g = -1 := congrArg Prod.fst this
      omega
  have mcol0 : col m = (g, e) := by rw [← c3 m mD]; exact mcol3
  have T5 : TMt (fun a => col' a = (g, e)) D5 m t M := v2.mono (fun a ha z => by
    rcases z with z | z
    · show col' a = _
      by_cases c : a < dT D3
      · rw [c0 a c]; exact z
      · exact cv a (by omega) ha
    · exact cv a z.1 z.2) (Int.le_refl _)
  have H5 : RLh col' D5 g r M h := H3'.votes hk (r' := r) (c := 1) (s := 1) (by rw [he]; exact v5.mono (Int.le_refl _) (Int.le_refl _) (fun a _ z => by rw [z]; exact mcol)) (by rw [he, hm]; exact ht ▸ T5.to) r5 (fun _ _ => rfl) hn (Int.le_refl _) H3'.w.1.2.2.1.2.2
  -- the iterator
  have n0 : 0 ≤ r 546 := by unfold IHn at hn; omega
  have hL12 : L.length ≤ 12 := by
    have q : (L.length : Int) = sCnt (r 546) (fun m => r (38 + 18 * k + (6 + m)) ≠ -1 ∧ True) := VT_len r5 n0
    have q2 := sCnt_bd (fun m => r (38 + 18 * k + (6 + m)) ≠ -1 ∧ True) (r 546).toNat
    rw [Int.toNat_of_nonneg n0] at q2
    omega
  have htl : tsz t = L.length := by rw [← tsz_len, ht]
  obtain ⟨D7, i1', i2', i3'⟩ := s_iter16 T5 v3 v4 (by omega) (by omega) (by omega)
  have b7 := i3'.2.1
  have b8 := i3'.2.2.2.1
  have b9 := i2'.1.2.1
  have H7 : RLh col' D7 g r M h := H5.tmp i3'
  have T7 := T5.ev i3' (fun _ _ _ z => z)
  have m9 : (151 : Int) ≤ m := r4.1.1.1
  have A7 : AB (fun b => b = dT D ∨ dT D7 ≤ b) D7 (dT D) [] 0 := by
    have arr3 : ¬ dW D3 (dT D) 1 = m := by rw [a4]; omega
    have A5 : AL D5 (dT D) [] 0 := a2.ev v5 (by omega) arr3
    have e5 : dW D5 (dT D) 1 = 1000012 := by rw [v5.at a2.1.2.1 (by omega)]; exact a4
    refine ⟨A5.ev i3' (fun z => z) (fun z => z), Or.inl rfl, Or.inl ?_⟩
    rw [i3'.at A5.1.2.1 (fun z => z)]
    exact e5
  have hcm : ∀ b, b < dT D7 → col' b = (g, e) → ¬ (b = dT D5 ∨ b = dT D ∨ dT D7 ≤ b) := fun b hb' hcb z => by
    rcases z with z | z | z
    · have := c9 b (by omega)
      rw [hcb] at this
      have : g = -1 := congrArg Prod.fst this
      omega
    · have e1 := c0 b (by omega)
      rw [hcb, c3n b (by omega)] at e1
      have : g = -1 := congrArg Prod.fst e1
      omega
    · omega
  obtain ⟨D9, l1, l2, l3⟩ := l_vals (v0 := g) (v1 := e) (v2 := 0) (v3 := 0) (P := fun b => b = dT D5 ∨ b = dT D ∨ dT D7 ≤ b) (Q := fun b => b = dT D ∨ dT D7 ≤ b) T7 i2' A7 (fun b hb' => Or.inr hb') (by omega) (fun b => Iff.rfl) hcm (fun q hq => (r5.2.1 q (by rw [← ht]; exact hq)).2) (by rw [ht]; exact hL12) (by decide) (by omega) (by omega)
  rw [ht] at l2 l3
  have d1 := l3.1
  have d2 := l3.2.1
  have d3 := l3.2.2.2.1
  have hPc : ∀ a, a < dT D → ¬ (a = dT D5 ∨ a = dT D ∨ dT D7 ≤ a) := fun a ha z => by omega
  have eO : dO D e 8 := by
    have q := (H.er k hk).1
    rw [he] at q
    exact q
  have e1w : dW D e 1 = r (38 + 18 * k + 1) := by
    have q := (H.er k hk).2.2.1 1 (by decide)
    rw [he] at q
    exact q
  have E09 : Ev (fun b => b = m) (3 + L.length) (8 + 48 * L.length) D D9 := ((((E3.mono (P' := fun b => b = m) (Int.le_refl _) (Int.le_refl _) (fun _ _ z => z.elim)).trans v5 (fun _ _ z => z)).trans i3' (fun _ _ z => z.elim)).trans l3 (fun b hb' z => absurd z (hPc b hb'))).mono (by omega) (by omega) (fun _ _ z => z)
  have gm : ¬ g = m := dO_ne (E3.dO H.o) r4.1.1 (by decide)
  have em : ¬ e = m := dO_ne r1 r4.1.1 (by decide)
  have hkeep : ∀ a, a < dT D7 → ((col' a).1 = g ∨ col' a = (0, 0)) → ¬ (a = dT D5 ∨ a = dT D ∨ dT D7 ≤ a) := fun a ha hc z => by
    have q : col' a = (-1, -1) := by
      rcases z with z | z | z
      · exact c9 a (by omega)
      · rw [c0 a (by omega)]; exact c3n a (by omega)
      · omega
    rw [q] at hc
    rcases hc with hc | hc
    · have hc : (-1 : Int) = g := hc
      omega
    · have : (-1 : Int) = 0 := congrArg Prod.fst hc
      omega
  obtain ⟨D10, s1, s2, s3⟩ := l_sets (g := g) (e := e) (n := r 1) (s := r (38 + 18 * k + 1)) (v2 := 0) (v3 := 0) (P := fun b => b = dT D5 ∨ b = dT D ∨ dT D7 ≤ b) (E09.dO H.o) (by rw [E09.at H.o.2.1 gm]; exact H.f1) (hPc g H.o.2.1) (E09.dO eO) (by rw [E09.at eO.2.1 em]; exact e1w) (hPc e eO.2.1) (l2.mono (fun b z => Or.inr z)) (fun b hb' => Or.inr (Or.inr (by omega))) i1 is (by rw [List.length_map]; exact hL12) (by omega) (by omega) (by omega)
  have f1 := s3.1
  have f2 := s3.2.1
  have f3 := s3.2.2.2.1
  have len1 : (L.map Prod.snd ++ List.replicate (r 1).toNat (r (38 + 18 * k + 1))).length = L.length + (r 1).toNat := by rw [List.length_append, List.length_map, List.length_replicate]
  -- the end
  have fin : ∀ (Dx : DD) (mx c s : Int), AB (fun b => b = dT D5 ∨ b = dT D ∨ dT D7 ≤ b) Dx (dT D) (bal L (r 1) (r (38 + 18 * k + 1))) mx → Ev (fun b => b = dT D5 ∨ b = dT D ∨ dT D7 ≤ b) c s D7 Dx → c ≤ 30 → s ≤ 1200 →
      ∃ u D' l', fX6_mean_b139 g (dT D) Dx = some (u, D') ∧ RLh col' D' g r M h ∧ (dO D' u 20 ∧ (dH D' u).2 = 2) ∧ l'.Perm (bal L (r 1) (r (38 + 18 * k + 1))) ∧ sorted l' ∧ dW D' u 0 = cutS l' (l'.length * (r 0).toNat / 100) (l'.length - l'.length * (r 0).toNat / 100 - l'.length * (r 0).toNat / 100) ∧ dW D' u 1 = ((l'.length - l'.length * (r 0).toNat / 100 - l'.length * (r 0).toNat / 100 : Nat) : Int) ∧ Ev (fun a => col a = (g, e)) 40 1500 D D' := by
    intro Dx mx c s hA hE hc hs
    have hEx : Ev (fun b => b = m) (3 + c) (8 + s) D Dx := ((((E3.mono (P' := fun b => b = m) (Int.le_refl _) (Int.le_refl _) (fun _ _ z => z.elim)).trans v5 (fun _ _ z => z)).trans i3' (fun _ _ z => z.elim)).trans hE (fun b hb' z => absurd z (hPc b hb'))).mono (by omega) (by omega) (fun _ _ z => z)
    have x1 := hEx.2.1
    have x2 := hEx.2.2.2.1
    have bl : ((bal L (r 1) (r (38 + 18 * k + 1))).length : Int) ≤ 23 := by
      rw [bal_len i1.1]
      split <;> omega
    have bne : bal L (r 1) (r (38 + 18 * k + 1)) ≠ [] := fun q => by
      have := bal_len (L := L) (s := r (38 + 18 * k + 1)) i1.1
      rw [q] at this
      split at this
      · simp at this
      · simp at this; omega
    have bb : ∀ v ∈ bal L (r 1) (r (38 + 18 * k + 1)), 0 ≤ v ∧ v ≤ 29 := fun v hv => by
      unfold bal at hv
      split at hv
      · rw [List.mem_singleton] at hv
        rw [hv]; exact is
      · rcases List.mem_append.mp hv with q | q
        · obtain ⟨p, p1, p2⟩ := List.mem_map.mp q
          rw [← p2]
          exact (r5.2.1 p p1).2
        · rw [(List.mem_replicate.mp q).2]; exact is
    have hHx : RLh col' Dx g r M h := H7.keep hE hkeep (fun _ _ => rfl)
    obtain ⟨u, D', l', w1, w2, w3, w4, w5, w6, w7⟩ := l_b139 (g := g) (r0 := r 0) hA hHx.o hHx.f0 i0 bb (by omega) bne (by omega) (by omega)
    have ll := w3.length_eq
    refine ⟨u, D', l', w1, hHx.tmp w7, ⟨w2.1, w2.2.1⟩, w3, w4, by rw [ll]; exact w5, by rw [ll]; exact w6, (hEx.trans w7 (fun _ _ z => z.elim)).mono (by omega) (by omega) (fun a _ z => by rw [z, mcol0])⟩
  -- the walk
  have hwalk : ∀ R, fX6_mean g e 0 0 D = R → True := fun _ _ => trivial
  have E79 : Ev (fun b => b = dT D5 ∨ b = dT D ∨ dT D7 ≤ b) (L.length + r 1) (48 * L.length + 48 * r 1) D7 D10 := (l3.trans s3 (fun _ _ z => z)).mono (by omega) (by omega) (fun _ _ z => z)
  have goal : ∃ u D' l', fX6_mean g e 0 0 D = some (u, D') ∧ RLh col' D' g r M h ∧ (dO D' u 20 ∧ (dH D' u).2 = 2) ∧ l'.Perm (bal L (r 1) (r (38 + 18 * k + 1))) ∧ sorted l' ∧ dW D' u 0 = cutS l' (l'.length * (r 0).toNat / 100) (l'.length - l'.length * (r 0).toNat / 100 - l'.length * (r 0).toNat / 100) ∧ dW D' u 1 = ((l'.length - l'.length * (r 0).toNat / 100 - l'.length * (r 0).toNat / 100 : Nat) : Int) ∧ Ev (fun a => col a = (g, e)) 40 1500 D D' := by
    unfold fX6_mean
    rw [if_pos ⟨by omega, by omega⟩, zl_eq, a1]
    simp only [Option.bind_some]
    rw [if_pos r1, hm, v1]
    simp only [Option.bind_some]
    rw [if_pos r4.1.1, i1']
    simp only [Option.bind_some]
    rw [if_pos v3, l1]
    simp only [Option.bind_some]
    rw [s1]
    simp only [Option.bind_some]
    rw [l_more]
    simp only [Option.bind_some]
    rw [s_isEmpty s2.1]
    simp only [Option.bind_some]
    by_cases hbl : L.map Prod.snd ++ List.replicate (r 1).toNat (r (38 + 18 * k + 1)) = []
    · have hz : (L.map Prod.snd ++ List.replicate (r 1).toNat (r (38 + 18 * k + 1))).map bx = [] := by rw [hbl]; rfl
      rw [if_pos hz, if_neg (by decide), s3.at (E09.dO eO).2.1 (hPc e eO.2.1), E09.at eO.2.1 em, e1w, s_valueOf ⟨by omega, by omega⟩]
      simp only [Option.bind_some]
      rw [hbl] at s2
      obtain ⟨D15, y1, y2, y3⟩ := s_addAB (v := r (38 + 18 * k + 1)) s2 (fun b hb' => Or.inr (Or.inr (by omega))) (by simp) (by omega) ⟨by omega, by omega⟩ (by omega) (by omega)
      rw [show (1000428 + r (38 + 18 * k + 1) : Int) = bx (r (38 + 18 * k + 1)) from rfl, y1]
      simp only [Option.bind_some]
      have eb : bal L (r 1) (r (38 + 18 * k + 1)) = [r (38 + 18 * k + 1)] := by unfold bal; rw [if_pos hbl]
      exact fin D15 _ (L.length + r 1 + 1) (48 * L.length + 48 * r 1 + 48) (by rw [eb]; exact y2) (E79.trans y3 (fun _ _ z => z)) (by omega) (by omega)
    · have hz : ¬ (L.map Prod.snd ++ List.replicate (r 1).toNat (r (38 + 18 * k + 1))).map bx = [] := fun q => hbl (List.map_eq_nil_iff.mp q)
      rw [if_neg hz, if_pos rfl]
      have eb : bal L (r 1) (r (38 + 18 * k + 1)) = L.map Prod.snd ++ List.replicate (r 1).toNat (r (38 + 18 * k + 1)) := by unfold bal; rw [if_neg hbl]
      exact fin D10 _ _ _ (by rw [eb]; exact s2) E79 (by omega) (by omega)
  obtain ⟨u, D', l', w1, w2, w3, w4, w5, w6, w7, w8⟩ := goal
  exact ⟨u, D', col', L, l', w1, w2, fun a ha => by rw [c0 a (by omega), c3 a ha], w3, r5, hL12, w4, w5, w6, w7, w8⟩
end MN
