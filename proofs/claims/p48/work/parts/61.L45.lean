set_option maxRecDepth 20000
/-! text() -/
section TXL
variable {col : Col} {D0 D : DD} {g b it lst : Int} {S : HStp} {M : Int} {h : HLs} {l0 : List Int}
abbrev Pt (T0 it : Int) : Int → Prop := fun a => T0 ≤ a ∧ a ≠ it
theorem tx_w (H : RLh col D0 g (rowS S) M h) (hS : okD' S) (hb : dT D0 ≤ b) (hit : dT D0 ≤ it) {cc ss : Int} (hI : It D it lst 0) (hB : SB (Pt (dT D0) it) D b l0) (E : Ev (fun _ => False) cc ss D0 D) (hl : dW D0 g 4 = lst) (h0 : l0.length + 14 * S.nw.toNat ≤ 360) (hT : dT D0 + cc + 200 < 600000) (hSS : dS D0 + ss + 200000 ≤ 7200000) (hcc : 0 ≤ cc ∧ 0 ≤ ss) :
    ∃ D', zlp (fun q => fX6_text_s62 g b it q) FU D = some D' ∧ SB (Pt (dT D0) it) D' b (l0 ++ rp (txW S) S.nw.toNat) ∧ Ev (fun _ => False) (cc + 6 * S.nw) (ss + 6000 * S.nw) D0 D' := by
  have hn : (h.lw.length : Int) = S.nw := H.nw
  have hcn : 0 ≤ S.nw ∧ S.nw ≤ 8 := by have := hS; unfold okD' at this; omega
  have ecn : ((S.nw.toNat : Nat) : Int) = S.nw := Int.toNat_of_nonneg hcn.1
  have glt := H.o.2.1
  have lle : ∀ i : Nat, i ≤ S.nw.toNat → (l0 ++ rp (txW S) i).length ≤ 360 := fun i hi => by
    have h1 := rp_len (f := txW S) (c := 14) (fun k => Nat.le_trans (txW_le S k) (by decide)) i
    rw [List.length_append]
    have h2 : 14 * i ≤ 14 * S.nw.toNat := Nat.mul_le_mul_left _ hi
    omega
  have loop := lp_FU (f := fun q => fX6_text_s62 g b it q)
    (fun i q => It q it lst i ∧ SB (Pt (dT D0) it) q b (l0 ++ rp (txW S) i) ∧ Ev (fun _ => False) (cc + 6 * i) (ss + 6000 * i) D0 q)
    (fun q => SB (Pt (dT D0) it) q b (l0 ++ rp (txW S) S.nw.toNat) ∧ Ev (fun _ => False) (cc + 6 * S.nw) (ss + 6000 * S.nw) D0 q) S.nw.toNat (by omega)
    (fun i q hi hq => by
      obtain ⟨x2, xB, a5⟩ := hq
      have hil : i < h.lw.length := by omega
      have b1 := a5.1
      have b2 := a5.2.1
      have b3 := a5.2.2.2.1
      have Hq := H.tmp a5
      have el : dW q g 4 = lst := by rw [a5.at glt (fun z => z)]; exact hl
      have A2 : AL q lst h.lw M := by have := Hq.w.1; rw [el] at this; exact this
      obtain ⟨D2, w1, w2, w3, w4⟩ := s_next A2 x2 hil
      have c1 := w4.1
      have c2 := w4.2.1
      have c3 := w4.2.2.2.1
      have E2 : Ev (fun _ => False) (cc + 6 * i + 0) (ss + 6000 * i + 0) D0 D2 := a5.trans w4 (fun y hy z => by have z : y = it := z; omega)
      have B2 : SB (Pt (dT D0) it) D2 b (l0 ++ rp (txW S) i) := xB.ev w4 xB.2.1.2 xB.2.2.2.2.1.2.2
      have p := (H.tmp E2).ew i hil
      have plt := (H.ew i hil).1.1.2.1
      have rr := rw4 (S := S) (k := (i : Int)) ⟨by omega, by omega⟩
      have np : ¬ Pt (dT D0) it (h.lw.getD i 0) := fun z => by have := z.1; omega
      have v0 : dW D2 (h.lw.getD i 0) 0 = S.w i 0 := (p.2.2 0 (by decide)).trans rr.1
      have v1 : dW D2 (h.lw.getD i 0) 1 = S.w i 1 := (p.2.2 1 (by decide)).trans rr.2.1
      have v2 : dW D2 (h.lw.getD i 0) 2 = S.w i 2 := (p.2.2 2 (by decide)).trans rr.2.2.1
      have ok := hS.2.2.2.2.2.2.2.1 (i : Int)
      obtain ⟨D3, D4, D5, D6, D7, D8, y0, y1, y2, y3, y4, y5, ⟨F0, F1, F2, F3, F4⟩, B8, F8⟩ := s_tx3 (k := 8) (a0 := S.w i 0) (a1 := S.w i 1) (a2 := S.w i 2) B2 (by decide) (by omega) (by omega) (by omega) (by have := lle i (by omega); have := sch_l; show _ + (sch 1000108).length ≤ 390; omega) (by omega) (by omega) (fun a ha => ⟨by omega, by have := w2.1.2.1; omega⟩)
      have szz : ∀ {Y : DD} {c' s' : Int}, Ev (Pt (dT D0) it) c' s' D2 Y → (dH Y (h.lw.getD i 0)).2 = 4 := fun {Y c' s'} E' => by rw [E'.sz p.1.1]; exact p.1.2
      have vv : ∀ {Y : DD} {c' s' : Int} (j : Int), Ev (Pt (dT D0) it) c' s' D2 Y → dW Y (h.lw.getD i 0) j = dW D2 (h.lw.getD i 0) j := fun {Y c' s'} j E' => E'.at p.1.1.2.1 np j
      left
      show ∃ s', fX6_text_s62 g b it q = some (.inl s') ∧ _
      unfold fX6_text_s62
      rw [s_has A2 x2, if_neg (by omega)]
      simp only [Option.bind_some]
      rw [if_pos x2.1, if_neg (by decide), w1]
      simp only [Option.bind_some]
      rw [if_pos p.1.1, show (1000108 : Int) = ((1000100 + 8 : Nat) : Int) from rfl, y0]
      simp only [Option.bind_some]
      rw [if_pos B2.1, if_pos ⟨by decide, by rw [szz F0]; decide⟩, vv 0 F0, v0, y1]
      simp only [Option.bind_some]
      rw [if_pos (F0.dO B2.1), y2]
      simp only [Option.bind_some]
      rw [if_pos (F1.dO B2.1), if_pos ⟨by decide, by rw [szz F2]; decide⟩, vv 1 F2, v1, y3]
      simp only [Option.bind_some]
      rw [if_pos (F2.dO B2.1), y4]
      simp only [Option.bind_some]
      rw [if_pos (F3.dO B2.1), if_pos ⟨by decide, by rw [szz F4]; decide⟩, vv 2 F4, v2, y5]
      simp only [Option.bind_some]
      rw [if_pos (F4.dO B2.1)]
      refine ⟨D8, rfl, ?_, ?_, (E2.trans F8 (fun y hy z => by have := z.1; omega)).mono (by omega) (by omega) (fun _ _ z => z)⟩
      · refine w2.ev F8 (fun z => z.2 rfl) (fun z => ?_) (by have := A2.1.2.1; omega)
        have := z.1
        have := (H.w.1.1).2.1
        rw [hl] at this
        omega
      · have e : l0 ++ rp (txW S) (i + 1) = (l0 ++ rp (txW S) i) ++ txW S i := by
          show l0 ++ (rp (txW S) i ++ txW S i) = _
          rw [List.append_assoc]
        rw [e]
        exact B8)
    (fun q hq => by
      obtain ⟨x2, xB, a5⟩ := hq
      have Hq := H.tmp a5
      have el : dW q g 4 = lst := by rw [a5.at glt (fun z => z)]; exact hl
      have A2 : AL q lst h.lw M := by have := Hq.w.1; rw [el] at this; exact this
      show ∃ s', fX6_text_s62 g b it q = some (.inr s') ∧ _
      unfold fX6_text_s62
      rw [s_has A2 x2, if_pos (by omega)]
      simp only [Option.bind_some]
      rw [if_pos x2.1, if_pos trivial]
      refine ⟨q, rfl, xB, ?_⟩
      rw [ecn] at a5
      exact a5)
    D ⟨hI, by simpa [rp] using hB, by simpa using E⟩
  exact loop
theorem tx_h (H : RLh col D0 g (rowS S) M h) (hS : okD' S) (hb : dT D0 ≤ b) (hit : dT D0 ≤ it) {cc ss : Int} (hI : It D it lst 0) (hB : SB (Pt (dT D0) it) D b l0) (E : Ev (fun _ => False) cc ss D0 D) (hl : dW D0 g 6 = lst) (h0 : l0.length + 16 * S.nh.toNat ≤ 360) (hT : dT D0 + cc + 200 < 600000) (hSS : dS D0 + ss + 200000 ≤ 7200000) (hcc : 0 ≤ cc ∧ 0 ≤ ss) :
    ∃ D', zlp (fun q => fX6_text_s127 g b it q) FU D = some D' ∧ SB (Pt (dT D0) it) D' b (l0 ++ rp (txH S) S.nh.toNat) ∧ Ev (fun _ => False) (cc + 4 * S.nh) (ss + 4000 * S.nh) D0 D' := by
  have hn : (h.lh.length : Int) = S.nh := H.nh
  have hcn : 0 ≤ S.nh ∧ S.nh ≤ 15 := by have := hS; unfold okD' at this; omega
  have ecn : ((S.nh.toNat : Nat) : Int) = S.nh := Int.toNat_of_nonneg hcn.1
  have glt := H.o.2.1
  have lle : ∀ i : Nat, i ≤ S.nh.toNat → (l0 ++ rp (txH S) i).length ≤ 360 := fun i hi => by
    have h1 := rp_len (f := txH S) (c := 16) (fun k => Nat.le_trans (txH_le S k) (by decide)) i
    rw [List.length_append]
    have h2 : 16 * i ≤ 16 * S.nh.toNat := Nat.mul_le_mul_left _ hi
    omega
  have loop := lp_FU (f := fun q => fX6_text_s127 g b it q)
    (fun i q => It q it lst i ∧ SB (Pt (dT D0) it) q b (l0 ++ rp (txH S) i) ∧ Ev (fun _ => False) (cc + 4 * i) (ss + 4000 * i) D0 q)
    (fun q => SB (Pt (dT D0) it) q b (l0 ++ rp (txH S) S.nh.toNat) ∧ Ev (fun _ => False) (cc + 4 * S.nh) (ss + 4000 * S.nh) D0 q) S.nh.toNat (by omega)
    (fun i q hi hq => by
      obtain ⟨x2, xB, a5⟩ := hq
      have hil : i < h.lh.length := by omega
      have b1 := a5.1
      have b2 := a5.2.1
      have b3 := a5.2.2.2.1
      have Hq := H.tmp a5
      have el : dW q g 6 = lst := by rw [a5.at glt (fun z => z)]; exact hl
      have A2 : AL q lst h.lh M := by have := Hq.hs.1; rw [el] at this; exact this
      obtain ⟨D2, w1, w2, w3, w4⟩ := s_next A2 x2 hil
      have c1 := w4.1
      have c2 := w4.2.1
      have c3 := w4.2.2.2.1
      have E2 : Ev (fun _ => False) (cc + 4 * i + 0) (ss + 4000 * i + 0) D0 D2 := a5.trans w4 (fun y hy z => by have z : y = it := z; omega)
      have B2 : SB (Pt (dT D0) it) D2 b (l0 ++ rp (txH S) i) := xB.ev w4 xB.2.1.2 xB.2.2.2.2.1.2.2
      have p := (H.tmp E2).eh i hil
      have plt := (H.eh i hil).1.1.2.1
      have rr := rh4 (S := S) (k := (i : Int)) ⟨by omega, by omega⟩
      have np : ¬ Pt (dT D0) it (h.lh.getD i 0) := fun z => by have := z.1; omega
      have v0 : dW D2 (h.lh.getD i 0) 0 = S.h i 0 := (p.2.2 0 (by decide)).trans rr.1
      have v1 : dW D2 (h.lh.getD i 0) 1 = S.h i 1 := (p.2.2 1 (by decide)).trans rr.2.1
      have ok := hS.2.2.2.2.2.2.2.2.1 (i : Int)
      obtain ⟨D3, D4, D5, D6, y0, y1, y2, y3, ⟨F0, F1, F2⟩, B8, F8⟩ := s_tx2 (k := 9) (a0 := S.h i 0) (a1 := S.h i 1) B2 (by decide) (by omega) (by omega) (by have := lle i (by omega); have := sch_l; show _ + (sch 1000109).length ≤ 390; omega) (by omega) (by omega) (fun a ha => ⟨by omega, by have := w2.1.2.1; omega⟩)
      have szz : ∀ {Y : DD} {c' s' : Int}, Ev (Pt (dT D0) it) c' s' D2 Y → (dH Y (h.lh.getD i 0)).2 = 4 := fun {Y c' s'} E' => by rw [E'.sz p.1.1]; exact p.1.2
      have vv : ∀ {Y : DD} {c' s' : Int} (j : Int), Ev (Pt (dT D0) it) c' s' D2 Y → dW Y (h.lh.getD i 0) j = dW D2 (h.lh.getD i 0) j := fun {Y c' s'} j E' => E'.at p.1.1.2.1 np j
      left
      show ∃ s', fX6_text_s127 g b it q = some (.inl s') ∧ _
      unfold fX6_text_s127
      rw [s_has A2 x2, if_neg (by omega)]
      simp only [Option.bind_some]
      rw [if_pos x2.1, if_neg (by decide), w1]
      simp only [Option.bind_some]
      rw [if_pos p.1.1, show (1000109 : Int) = ((1000100 + 9 : Nat) : Int) from rfl, y0]
      simp only [Option.bind_some]
      rw [if_pos B2.1, if_pos ⟨by decide, by rw [szz F0]; decide⟩, vv 0 F0, v0, y1]
      simp only [Option.bind_some]
      rw [if_pos (F0.dO B2.1), y2]
      simp only [Option.bind_some]
      rw [if_pos (F1.dO B2.1), if_pos ⟨by decide, by rw [szz F2]; decide⟩, vv 1 F2, v1, y3]
      simp only [Option.bind_some]
      rw [if_pos (F2.dO B2.1)]
      refine ⟨D6, rfl, ?_, ?_, (E2.trans F8 (fun y hy z => by have := z.1; omega)).mono (by omega) (by omega) (fun _ _ z => z)⟩
      · refine w2.ev F8 (fun z => z.2 rfl) (fun z => ?_) (by have := A2.1.2.1; omega)
        have := z.1
        have := (H.hs.1.1).2.1
        rw [hl] at this
        omega
      · have e : l0 ++ rp (txH S) (i + 1) = (l0 ++ rp (txH S) i) ++ txH S i := by
          show l0 ++ (rp (txH S) i ++ txH S i) = _
          rw [List.append_assoc]
        rw [e]
        exact B8)
    (fun q hq => by
      obtain ⟨x2, xB, a5⟩ := hq
      have Hq := H.tmp a5
      have el : dW q g 6 = lst := by rw [a5.at glt (fun z => z)]; exact hl
      have A2 : AL q lst h.lh M := by have := Hq.hs.1; rw [el] at this; exact this
      show ∃ s', fX6_text_s127 g b it q = some (.inr s') ∧ _
      unfold fX6_text_s127
      rw [s_has A2 x2, if_pos (by omega)]
      simp only [Option.bind_some]
      rw [if_pos x2.1, if_pos trivial]
      refine ⟨q, rfl, xB, ?_⟩
      rw [ecn] at a5
      exact a5)
    D ⟨hI, by simpa [rp] using hB, by simpa using E⟩
  exact loop
theorem tx_m (H : RLh col D0 g (rowS S) M h) (hS : okD' S) (hb : dT D0 ≤ b) (hit : dT D0 ≤ it) {cc ss : Int} (hI : It D it lst 0) (hB : SB (Pt (dT D0) it) D b l0) (E : Ev (fun _ => False) cc ss D0 D) (hl : dW D0 g 7 = lst) (h0 : l0.length + 13 * S.nm.toNat ≤ 360) (hT : dT D0 + cc + 200 < 600000) (hSS : dS D0 + ss + 200000 ≤ 7200000) (hcc : 0 ≤ cc ∧ 0 ≤ ss) :
    ∃ D', zlp (fun q => fX6_text_s181 g b it q) FU D = some D' ∧ SB (Pt (dT D0) it) D' b (l0 ++ rp (txM S) S.nm.toNat) ∧ Ev (fun _ => False) (cc + 4 * S.nm) (ss + 4000 * S.nm) D0 D' := by
  have hn : (h.lm.length : Int) = S.nm := H.nm
  have hcn : 0 ≤ S.nm ∧ S.nm ≤ 12 := by have := hS; unfold okD' at this; omega
  have ecn : ((S.nm.toNat : Nat) : Int) = S.nm := Int.toNat_of_nonneg hcn.1
  have glt := H.o.2.1
  have lle : ∀ i : Nat, i ≤ S.nm.toNat → (l0 ++ rp (txM S) i).length ≤ 360 := fun i hi => by
    have h1 := rp_len (f := txM S) (c := 13) (fun k => Nat.le_trans (txM_le S k) (by decide)) i
    rw [List.length_append]
    have h2 : 13 * i ≤ 13 * S.nm.toNat := Nat.mul_le_mul_left _ hi
    omega
  have loop := lp_FU (f := fun q => fX6_text_s181 g b it q)
    (fun i q => It q it lst i ∧ SB (Pt (dT D0) it) q b (l0 ++ rp (txM S) i) ∧ Ev (fun _ => False) (cc + 4 * i) (ss + 4000 * i) D0 q)
    (fun q => SB (Pt (dT D0) it) q b (l0 ++ rp (txM S) S.nm.toNat) ∧ Ev (fun _ => False) (cc + 4 * S.nm) (ss + 4000 * S.nm) D0 q) S.nm.toNat (by omega)
    (fun i q hi hq => by
      obtain ⟨x2, xB, a5⟩ := hq
      have hil : i < h.lm.length := by omega
      have b1 := a5.1
      have b2 := a5.2.1
      have b3 := a5.2.2.2.1
      have Hq := H.tmp a5
      have el : dW q g 7 = lst := by rw [a5.at glt (fun z => z)]; exact hl
      have A2 : AL q lst h.lm M := by have := Hq.mb.1; rw [el] at this; exact this
      obtain ⟨D2, w1, w2, w3, w4⟩ := s_next A2 x2 hil
      have c1 := w4.1
      have c2 := w4.2.1
      have c3 := w4.2.2.2.1
      have E2 : Ev (fun _ => False) (cc + 4 * i + 0) (ss + 4000 * i + 0) D0 D2 := a5.trans w4 (fun y hy z => by have z : y = it := z; omega)
      have B2 : SB (Pt (dT D0) it) D2 b (l0 ++ rp (txM S) i) := xB.ev w4 xB.2.1.2 xB.2.2.2.2.1.2.2
      have p := (H.tmp E2).em i hil
      have plt := (H.em i hil).1.1.2.1
      have rr := rm6 (S := S) (k := (i : Int)) ⟨by omega, by omega⟩
      have np : ¬ Pt (dT D0) it (h.lm.getD i 0) := fun z => by have := z.1; omega
      have v0 : dW D2 (h.lm.getD i 0) 0 = S.m i 0 := (p.2.2 0 (by decide)).trans rr.1
      have v1 : dW D2 (h.lm.getD i 0) 1 = S.m i 1 := (p.2.2 1 (by decide)).trans rr.2.1
      have ok := hS.2.2.2.2.2.2.2.2.2.1 (i : Int)
      obtain ⟨D3, D4, D5, D6, y0, y1, y2, y3, ⟨F0, F1, F2⟩, B8, F8⟩ := s_tx2 (k := 10) (a0 := S.m i 0) (a1 := S.m i 1) B2 (by decide) (by omega) (by omega) (by have := lle i (by omega); have := sch_l; show _ + (sch 1000110).length ≤ 390; omega) (by omega) (by omega) (fun a ha => ⟨by omega, by have := w2.1.2.1; omega⟩)
      have szz : ∀ {Y : DD} {c' s' : Int}, Ev (Pt (dT D0) it) c' s' D2 Y → (dH Y (h.lm.getD i 0)).2 = 6 := fun {Y c' s'} E' => by rw [E'.sz p.1.1]; exact p.1.2
      have vv : ∀ {Y : DD} {c' s' : Int} (j : Int), Ev (Pt (dT D0) it) c' s' D2 Y → dW Y (h.lm.getD i 0) j = dW D2 (h.lm.getD i 0) j := fun {Y c' s'} j E' => E'.at p.1.1.2.1 np j
      left
      show ∃ s', fX6_text_s181 g b it q = some (.inl s') ∧ _
      unfold fX6_text_s181
      rw [s_has A2 x2, if_neg (by omega)]
      simp only [Option.bind_some]
      rw [if_pos x2.1, if_neg (by decide), w1]
      simp only [Option.bind_some]
      rw [if_pos p.1.1, show (1000110 : Int) = ((1000100 + 10 : Nat) : Int) from rfl, y0]
      simp only [Option.bind_some]
      rw [if_pos B2.1, if_pos ⟨by decide, by rw [szz F0]; decide⟩, vv 0 F0, v0, y1]
      simp only [Option.bind_some]
      rw [if_pos (F0.dO B2.1), y2]
      simp only [Option.bind_some]
      rw [if_pos (F1.dO B2.1), if_pos ⟨by decide, by rw [szz F2]; decide⟩, vv 1 F2, v1, y3]
      simp only [Option.bind_some]
      rw [if_pos (F2.dO B2.1)]
      refine ⟨D6, rfl, ?_, ?_, (E2.trans F8 (fun y hy z => by have := z.1; omega)).mono (by omega) (by omega) (fun _ _ z => z)⟩
      · refine w2.ev F8 (fun z => z.2 rfl) (fun z => ?_) (by have := A2.1.2.1; omega)
        have := z.1
        have := (H.mb.1.1).2.1
        rw [hl] at this
        omega
      · have e : l0 ++ rp (txM S) (i + 1) = (l0 ++ rp (txM S) i) ++ txM S i := by
          show l0 ++ (rp (txM S) i ++ txM S i) = _
          rw [List.append_assoc]
        rw [e]
        exact B8)
    (fun q hq => by
      obtain ⟨x2, xB, a5⟩ := hq
      have Hq := H.tmp a5
      have el : dW q g 7 = lst := by rw [a5.at glt (fun z => z)]; exact hl
      have A2 : AL q lst h.lm M := by have := Hq.mb.1; rw [el] at this; exact this
      show ∃ s', fX6_text_s181 g b it q = some (.inr s') ∧ _
      unfold fX6_text_s181
      rw [s_has A2 x2, if_pos (by omega)]
      simp only [Option.bind_some]
      rw [if_pos x2.1, if_pos trivial]
      refine ⟨q, rfl, xB, ?_⟩
      rw [ecn] at a5
      exact a5)
    D ⟨hI, by simpa [rp] using hB, by simpa using E⟩
  exact loop
theorem tx_c (H : RLh col D0 g (rowS S) M h) (hS : okD' S) (hb : dT D0 ≤ b) (hit : dT D0 ≤ it) {cc ss : Int} (hI : It D it lst 0) (hB : SB (Pt (dT D0) it) D b l0) (E : Ev (fun _ => False) cc ss D0 D) (hl : dW D0 g 8 = lst) (h0 : l0.length + 16 * S.nc.toNat ≤ 360) (hT : dT D0 + cc + 200 < 600000) (hSS : dS D0 + ss + 200000 ≤ 7200000) (hcc : 0 ≤ cc ∧ 0 ≤ ss) :
    ∃ D', zlp (fun q => fX6_text_s235 b it q) FU D = some D' ∧ SB (Pt (dT D0) it) D' b (l0 ++ rp (txC S) S.nc.toNat) ∧ Ev (fun _ => False) (cc + 6 * S.nc) (ss + 6000 * S.nc) D0 D' := by
  have hn : (h.lc.length : Int) = S.nc := H.nc
  have hcn : 0 ≤ S.nc ∧ S.nc ≤ 8 := by have := hS; unfold okD' at this; omega
  have ecn : ((S.nc.toNat : Nat) : Int) = S.nc := Int.toNat_of_nonneg hcn.1
  have glt := H.o.2.1
  have lle : ∀ i : Nat, i ≤ S.nc.toNat → (l0 ++ rp (txC S) i).length ≤ 360 := fun i hi => by
    have h1 := rp_len (f := txC S) (c := 16) (fun k => Nat.le_trans (txC_le S k) (by decide)) i
    rw [List.length_append]
    have h2 : 16 * i ≤ 16 * S.nc.toNat := Nat.mul_le_mul_left _ hi
    omega
  have loop := lp_FU (f := fun q => fX6_text_s235 b it q)
    (fun i q => It q it lst i ∧ SB (Pt (dT D0) it) q b (l0 ++ rp (txC S) i) ∧ Ev (fun _ => False) (cc + 6 * i) (ss + 6000 * i) D0 q)
    (fun q => SB (Pt (dT D0) it) q b (l0 ++ rp (txC S) S.nc.toNat) ∧ Ev (fun _ => False) (cc + 6 * S.nc) (ss + 6000 * S.nc) D0 q) S.nc.toNat (by omega)
    (fun i q hi hq => by
      obtain ⟨x2, xB, a5⟩ := hq
      have hil : i < h.lc.length := by omega
      have b1 := a5.1
      have b2 := a5.2.1
      have b3 := a5.2.2.2.1
      have Hq := H.tmp a5
      have el : dW q g 8 = lst := by rw [a5.at glt (fun z => z)]; exact hl
      have A2 : AL q lst h.lc M := by have := Hq.cs.1; rw [el] at this; exact this
      obtain ⟨D2, w1, w2, w3, w4⟩ := s_next A2 x2 hil
      have c1 := w4.1
      have c2 := w4.2.1
      have c3 := w4.2.2.2.1
      have E2 : Ev (fun _ => False) (cc + 6 * i + 0) (ss + 6000 * i + 0) D0 D2 := a5.trans w4 (fun y hy z => by have z : y = it := z; omega)
      have B2 : SB (Pt (dT D0) it) D2 b (l0 ++ rp (txC S) i) := xB.ev w4 xB.2.1.2 xB.2.2.2.2.1.2.2
      have p := (H.tmp E2).ec i hil
      have plt := (H.ec i hil).1.1.2.1
      have rr := rc3 (S := S) (k := (i : Int)) ⟨by omega, by omega⟩
      have np : ¬ Pt (dT D0) it (h.lc.getD i 0) := fun z => by have := z.1; omega
      have v0 : dW D2 (h.lc.getD i 0) 0 = S.c i 0 := (p.2.2 0 (by decide)).trans rr.1
      have v1 : dW D2 (h.lc.getD i 0) 1 = S.c i 1 := (p.2.2 1 (by decide)).trans rr.2.1
      have v2 : dW D2 (h.lc.getD i 0) 2 = S.c i 2 := (p.2.2 2 (by decide)).trans rr.2.2
      have ok := hS.2.2.2.2.2.2.2.2.2.2 (i : Int)
      obtain ⟨D3, D4, D5, D6, D7, D8, y0, y1, y2, y3, y4, y5, ⟨F0, F1, F2, F3, F4⟩, B8, F8⟩ := s_tx3 (k := 11) (a0 := S.c i 0) (a1 := S.c i 1) (a2 := S.c i 2) B2 (by decide) (by omega) (by omega) (by omega) (by have := lle i (by omega); have := sch_l; show _ + (sch 1000111).length ≤ 390; omega) (by omega) (by omega) (fun a ha => ⟨by omega, by have := w2.1.2.1; omega⟩)
      have szz : ∀ {Y : DD} {c' s' : Int}, Ev (Pt (dT D0) it) c' s' D2 Y → (dH Y (h.lc.getD i 0)).2 = 3 := fun {Y c' s'} E' => by rw [E'.sz p.1.1]; exact p.1.2
      have vv : ∀ {Y : DD} {c' s' : Int} (j : Int), Ev (Pt (dT D0) it) c' s' D2 Y → dW Y (h.lc.getD i 0) j = dW D2 (h.lc.getD i 0) j := fun {Y c' s'} j E' => E'.at p.1.1.2.1 np j
      left
      show ∃ s', fX6_text_s235 b it q = some (.inl s') ∧ _
      unfold fX6_text_s235
      rw [s_has A2 x2, if_neg (by omega)]
      simp only [Option.bind_some]
      rw [if_pos x2.1, if_neg (by decide), w1]
      simp only [Option.bind_some]
      rw [if_pos p.1.1, show (1000111 : Int) = ((1000100 + 11 : Nat) : Int) from rfl, y0]
      simp only [Option.bind_some]
      rw [if_pos B2.1, if_pos ⟨by decide, by rw [szz F0]; decide⟩, vv 0 F0, v0, y1]
      simp only [Option.bind_some]
      rw [if_pos (F0.dO B2.1), y2]
      simp only [Option.bind_some]
      rw [if_pos (F1.dO B2.1), if_pos ⟨by decide, by rw [szz F2]; decide⟩, vv 1 F2, v1, y3]
      simp only [Option.bind_some]
      rw [if_pos (F2.dO B2.1), y4]
      simp only [Option.bind_some]
      rw [if_pos (F3.dO B2.1), if_pos ⟨by decide, by rw [szz F4]; decide⟩, vv 2 F4, v2, y5]
      simp only [Option.bind_some]
      rw [if_pos (F4.dO B2.1)]
      refine ⟨D8, rfl, ?_, ?_, (E2.trans F8 (fun y hy z => by have := z.1; omega)).mono (by omega) (by omega) (fun _ _ z => z)⟩
      · refine w2.ev F8 (fun z => z.2 rfl) (fun z => ?_) (by have := A2.1.2.1; omega)
        have := z.1
        have := (H.cs.1.1).2.1
        rw [hl] at this
        omega
      · have e : l0 ++ rp (txC S) (i + 1) = (l0 ++ rp (txC S) i) ++ txC S i := by
          show l0 ++ (rp (txC S) i ++ txC S i) = _
          rw [List.append_assoc]
        rw [e]
        exact B8)
    (fun q hq => by
      obtain ⟨x2, xB, a5⟩ := hq
      have Hq := H.tmp a5
      have el : dW q g 8 = lst := by rw [a5.at glt (fun z => z)]; exact hl
      have A2 : AL q lst h.lc M := by have := Hq.cs.1; rw [el] at this; exact this
      show ∃ s', fX6_text_s235 b it q = some (.inr s') ∧ _
      unfold fX6_text_s235
      rw [s_has A2 x2, if_pos (by omega)]
      simp only [Option.bind_some]
      rw [if_pos x2.1, if_pos trivial]
      refine ⟨q, rfl, xB, ?_⟩
      rw [ecn] at a5
      exact a5)
    D ⟨hI, by simpa [rp] using hB, by simpa using E⟩
  exact loop
end TXL
