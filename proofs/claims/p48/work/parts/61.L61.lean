set_option maxRecDepth 20000
section HL6
variable {col col' : Col} {D D' : DD} {g g2 v3 v4 v5 : Int} {r s : Row} {M c s' B d : Int} {l l2 : List Int} {rl rl2 : List Row} {sv : Option Row} {z : ZZ} {ln : Nat}
theorem HH.hist {P : Int → Prop} (h : HH col D g r M) (E : Ev P c s' D D') (hP : ∀ a, a < dT D → P a → (col a).1 = 1) (hc : ∀ a, a < dT D → col' a = col a) (hm : M + 1 < 1000000) : HH col' D' g r (M + 1) := by
  obtain ⟨h, H⟩ := h
  refine ⟨h, (H.keep E (fun a ha q p => ?_) hc).mono (by omega) hm⟩
  have g1 := H.o.1
  have e := hP a ha p
  rcases q with q | q
  · omega
  · rw [q] at e
    have e : (0 : Int) = 1 := e
    omega
theorem LO.fa (h : LO col D g v3 v4 l rl sv M) (hT : dT D ≤ 600000) : ∀ a, a < dT D → FA D v3 a → (col a).1 = 1 := by
  obtain ⟨⟨a1, a2, a3⟩, -⟩ := h
  intro a ha q
  rcases q with q | q
  · rw [q, a2]
  · rcases a3 with a3 | a3
    · rw [a3] at q; omega
    · rw [q, a3.2]
/-- the history list changes -/
theorem LO.lst (h : LO col D g v3 v4 l rl sv M) (hT : dT D ≤ 600000) (E : Ev (FA D v3) c s' D D') (A : AL D' v3 l2 (M + 1)) (ha : dW D' v3 1 = dW D v3 1 ∨ dT D ≤ dW D' v3 1) (hl : l2.length = rl2.length) (hh : ∀ i : Nat, i < l2.length → HH col D (l2.getD i 0) (rl2.getD i zrow) M) (hn : (g2 :: l2).Nodup) (h4 : ¬ v4 ∈ g2 :: l2) (hM : M + 1 < 1000000) : ∃ col', LO col' D' g2 v3 v4 l2 rl2 sv (M + 1) ∧ (∀ a, a < dT D → col' a = col a) ∧ ∀ g' r', HH col D g' r' M → HH col' D' g' r' (M + 1) := by
  have fa := h.fa hT
  obtain ⟨⟨a1, a2, a3⟩, b, -, e, -, -⟩ := h
  have hc : ∀ a, a < dT D → (fun y => if dT D ≤ y then (1, 0) else col y : Col) a = col a := fun a q => if_neg (by omega)
  have hk : ∀ g' r', HH col D g' r' M → HH (fun y => if dT D ≤ y then (1, 0) else col y) D' g' r' (M + 1) := fun g' r' q => q.hist E fa hc hM
  refine ⟨fun y => if dT D ≤ y then (1, 0) else col y, ⟨⟨A, by rw [hc v3 a1.1.2.1]; exact a2, ?_⟩, hl, fun i hi => hk _ _ (hh i hi), ?_, hn, h4⟩, hc, hk⟩
  · rcases A.arrlt with q | q
    · exact Or.inl q
    · refine Or.inr ⟨q, ?_⟩
      rcases ha with ha | ha
      · rw [ha] at q ⊢
        rcases a3 with a3 | a3
        · rw [a3]; exact if_pos (by omega)
        · rw [hc _ a3.1]; exact a3.2
      · exact if_pos ha
  · rcases e with e | ⟨q, e1, e2⟩
    · exact Or.inl e
    · exact Or.inr ⟨q, e1, hk _ _ e2⟩
theorem OKr.mono {B' d' : Int} (h : OKr B d r) (h1 : B ≤ B') (h2 : B' ≤ 1000000) (h3 : d ≤ d') : OKr B' d' r := ⟨IH_mono h.1 h1 h2, h.2.1, by have := h.2.2; omega⟩
/-- the room of a round -/
abbrev RM (D : DD) : Prop := dT D + 6000 < 600000 ∧ dS D + 120000 ≤ 7200000
/-- undoing -/
theorem l_undoR (S : LSt col D z g v3 v4 r l rl sv M B d) (hv : 0 ≤ v5 ∧ v5 ≤ 100) (hR : RM D) (hM : M + 1 < 900000) :
    ∃ z1 D1 j v, fL_undo z = some (v, z1, j) ∧ j ≤ 1 ∧ fJx4a65c_isEmpty_aae02 v3 (djn j D) = some (if l = [] then 1 else 0) ∧ dO (djn j D) v3 9 ∧ fJx4a65c_size_8abf5 v3 (djn j D) = some (l.length : Int) ∧ v = (if l = [] then -1000000003 else (l.length : Int) - 1) ∧
    ∃ g2 z2 D2 col2 r2 l2 rl2, fL_law_b191 g v3 v4 v5 v v ln z1 (djn j D) = some (.inl (g2, v4, v5 + 1, z2, D2)) ∧ D1 = D2 ∧ LSt col2 D2 z2 g2 v3 v4 r2 l2 rl2 sv (M + 1) B d ∧ dT D2 ≤ dT D + 1110 ∧ dS D2 ≤ dS D + 36600 := by
  have S0 := S
  obtain ⟨⟨h, H⟩, O, C, K, K1, K2, hM9⟩ := S
  have ho : 151 ≤ g ∧ g < dT D := ⟨H.o.1, H.o.2.1⟩
  by_cases c : l = []
  · subst c
    have hrl : rl = [] := List.eq_nil_of_length_eq_zero (by rw [← O.2.1]; rfl)
    subst hrl
    have e1 := ev_djn (D := D) 1
    have t1 := e1.2.1
    have u1 := e1.2.2.2.1
    have O1 := O.tmp ho e1 (by omega)
    have O1' : LO col (djn 1 D) g v3 v4 [] [] sv (M + 1) := O1.mv ⟨ho.1, by have := e1.1; omega⟩ (Ev.refl _ _) (fun _ _ _ => rfl) (by omega) (by omega)
    have S1 : LSt col (djn 1 D) z g v3 v4 r [] [] sv (M + 1) B d := ⟨⟨h, (H.tmp e1).mono (by omega) (by omega)⟩, O1', C, K, K1, K2, hM⟩
    obtain ⟨z2, D2, col2, w1, w2, w3⟩ := l_b394 (ln := ln) (v5 := v5) S1 hv (by omega) (by omega)
    have t2 := w3.2.1
    have u2 := w3.2.2.2.1
    refine ⟨z, D2, 1, -1000000003, ?_, by decide, ?_, O1.1.1.1, ?_, rfl, g, z2, D2, col2, r, [], [], ?_, rfl, w2, by omega, by omega⟩
    · unfold fL_undo
      rw [x_undo0 C]
      rfl
    · rw [s_isEmpty O1.1.1]
    · rw [s_size O1.1.1]
    · unfold fL_law_b191
      rw [if_pos rfl, s_isEmpty O1.1.1, Option.bind_some, if_pos O1.1.1.1, if_pos rfl, if_neg (by decide)]
      exact w1
  · obtain ⟨l', x, rfl⟩ : ∃ l' x, l = l' ++ [x] := ⟨l.dropLast, l.getLast c, (List.dropLast_concat_getLast c).symm⟩
    have hlen := O.2.1
    have hL : (l' ++ [x]).length = l'.length + 1 := by rw [List.length_append]; rfl
    have hrn : rl ≠ [] := fun q => by rw [q, hL] at hlen; cases hlen
    obtain ⟨rl', s, rfl⟩ : ∃ rl' s, rl = rl' ++ [s] := ⟨rl.dropLast, rl.getLast hrn, (List.dropLast_concat_getLast hrn).symm⟩
    have hL2 : (rl' ++ [s]).length = rl'.length + 1 := by rw [List.length_append]; rfl
    have hle : l'.length = rl'.length := by omega
    have hrev : (rl' ++ [s]).reverse = s :: rl'.reverse := by rw [List.reverse_append]; rfl
    rw [hrev] at C
    have Ks := K1 s (List.mem_append_right _ (List.mem_singleton.mpr rfl))
    obtain ⟨z1, y1, y2⟩ := x_undo C Ks.1
    obtain ⟨D1, w1, w2, w3, w4⟩ := s_rem O.1.1 (i := l'.length) (by omega) (by omega)
    have gx : (l' ++ [x]).getD l'.length 0 = x := by rw [getD_app, if_neg (by omega), Nat.sub_self]; rfl
    have gs' : (rl' ++ [s]).getD l'.length zrow = s := by
      rw [List.getD_eq_getElem?_getD, List.getElem?_append_right (by omega), hle, Nat.sub_self]; rfl
    have er : (l' ++ [x]).eraseIdx l'.length = l' := by
      rw [List.eraseIdx_append_of_length_le (Nat.le_refl _), Nat.sub_self]
      show l' ++ [] = l'
      rw [List.append_nil]
    rw [gx] at w1
    rw [er] at w2
    have hx : HH col D x s M := by
      have := O.2.2.1 l'.length (by omega)
      rw [gx, gs'] at this
      exact this
    have nd := O.2.2.2.2.1
    have nd2 : (l' ++ [x]).Nodup := (List.nodup_cons.mp nd).2
    have nd3 : (x :: l').Nodup := by
      rw [List.nodup_append] at nd2
      exact List.nodup_cons.mpr ⟨fun q => nd2.2.2 x q x (List.mem_singleton.mpr rfl) rfl, nd2.1⟩
    have n4 : ¬ v4 ∈ x :: l' := fun q => O.2.2.2.2.2 (List.mem_cons_of_mem _ (by
      rcases List.mem_cons.mp q with q | q
      · rw [q]; exact List.mem_append_right _ (List.mem_singleton.mpr rfl)
      · exact List.mem_append_left _ q))
    obtain ⟨col1, O1, c1, k1⟩ := O.lst (g2 := x) (rl2 := rl') (by have := hR.1; omega) w3 w2 (Or.inl w4) hle (fun i hi => by
      have := O.2.2.1 i (by omega)
      rw [getD_app, if_pos hi] at this
      have e : (rl' ++ [s]).getD i zrow = rl'.getD i zrow := by
        rw [List.getD_eq_getElem?_getD, List.getD_eq_getElem?_getD, List.getElem?_append_left (by omega)]
      rw [e] at this
      exact this) nd3 n4 (by omega)
    have S1 : LSt col1 D1 z1 x v3 v4 s l' rl' sv (M + 1) B d := ⟨k1 _ _ hx, O1, y2, Ks, fun q hq => K1 q (List.mem_append_left _ hq), K2, hM⟩
    have t1 := w3.2.1
    have u1 := w3.2.2.2.1
    have R1 := hR.1
    have R2 := hR.2
    obtain ⟨z2, D2, col2, m1, m2, m3⟩ := l_b394 (ln := ln) (v5 := v5) S1 hv (by omega) (by omega)
    have t2 := m3.2.1
    have u2 := m3.2.2.2.1
    have hv2 : (((l' ++ [x]).length : Nat) : Int) - 1 = l'.length := by rw [hL]; omega
    have ef : (if l' ++ [x] = [] then (1 : Int) else 0) = 0 := if_neg c
    refine ⟨z1, D2, 0, (l'.length : Int), ?_, by decide, ?_, O.1.1.1, s_size O.1.1, by rw [if_neg c, hv2], x, z2, D2, col2, s, l', rl', ?_, rfl, m2, by omega, by omega⟩
    · unfold fL_undo
      rw [y1, List.length_reverse, ← hle]
      rfl
    · show fJx4a65c_isEmpty_aae02 v3 D = _
      rw [s_isEmpty O.1.1]
    · show fL_law_b191 g v3 v4 v5 l'.length l'.length ln z1 D = _
      unfold fL_law_b191
      rw [if_pos rfl, s_isEmpty O.1.1, Option.bind_some, if_pos O.1.1.1, ef, if_pos rfl, s_size O.1.1, Option.bind_some, hv2, if_pos (inR_s (by have := O.1.1.2.2.2.1; omega)), w1, Option.bind_some]
      dsimp only
      rw [if_pos (k1 _ _ hx).o]
      exact m1
end HL6
