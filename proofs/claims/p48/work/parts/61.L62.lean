set_option maxRecDepth 20000
section HL7
variable {col col' : Col} {D D' : DD} {g g2 v3 v4 v5 : Int} {r s : Row} {M c s' B d : Int} {l l2 : List Int} {rl rl2 : List Row} {sv : Option Row} {z : ZZ} {ln : Nat}
/-- a hall is copied: the others stay -/
theorem LO.cp {o : Int} {r' : Row} (h : LO col D g v3 v4 l rl sv M) (ho : 151 ≤ o ∧ o < dT D) (E : Ev (fun a => (col a).1 = o) c s' D D') (hc : ∀ a, a < dT D → (col a).1 < dT D → col' a = col a) (hO : HH col D o r' M) (hK : HH col' D' o r' M) (hr : ∀ i : Nat, i < l.length → l.getD i 0 = o → rl.getD i zrow = r') (hv : v4 = o → sv = some r') (h9 : M < 1000000) : LO col' D' g v3 v4 l rl sv M := by
  obtain ⟨⟨a1, a2, a3⟩, b, d, e, f, k⟩ := h
  have t1 : (1 : Int) < dT D := by omega
  have n3 : ¬ (col v3).1 = o := by rw [a2]; show ¬ (1 : Int) = o; omega
  have e1 : dW D' v3 1 = dW D v3 1 := E.at a1.1.2.1 n3 1
  have n4 : dW D v3 1 = 1000012 ∨ ¬ (col (dW D v3 1)).1 = o := a3.imp id (fun q => by rw [q.2]; show ¬ (1 : Int) = o; omega)
  refine ⟨⟨?_, by rw [hc v3 a1.1.2.1 (by rw [a2]; exact t1), a2], ?_⟩, b, fun i hi => ?_, ?_, f, k⟩
  · obtain ⟨q1, q2, q3, q4, q5⟩ := a1
    have at' := fun j => E.at q1.2.1 n3 j
    refine ⟨E.dO q1, by rw [at']; exact q2, by rw [at']; exact q3, q4, ?_⟩
    rw [at']
    rcases q5 with q5 | q5
    · exact Or.inl q5
    · refine Or.inr (q5.ev E ?_)
      rcases n4 with n4 | n4
      · have := q5.1.2; omega
      · exact n4
  · rw [e1]
    rcases a3 with a3 | ⟨a3, a4⟩
    · exact Or.inl a3
    · exact Or.inr ⟨by have := E.1; omega, by rw [hc _ a3 (by rw [a4]; exact t1), a4]⟩
  · by_cases q : l.getD i 0 = o
    · rw [q, hr i hi q]; exact hK
    · exact (d i hi).mv q ho E hc (Int.le_refl _) h9
  · rcases e with e | ⟨q, e1, e2⟩
    · exact Or.inl e
    · refine Or.inr ⟨q, e1, ?_⟩
      by_cases y : v4 = o
      · have := hv y
        rw [this] at e1
        cases e1
        rw [y]; exact hK
      · exact e2.mv y ho E hc (Int.le_refl _) h9
/-- saving -/
theorem l_saveR (S : LSt col D z g v3 v4 r l rl sv M B d) (hv : 0 ≤ v5 ∧ v5 ≤ 100) (hR : RM D) (hM : 200 ≤ M) :
    ∃ z1 D1, fX5_save z = some (r 3, z1) ∧ dO D g 7 ∧ dW D g 3 = r 3 ∧ fX6_init_ (dT D) g (dnew D 7 10) = some D1 ∧ ∃ z2 D2 col2, fL_law_b394 g v3 (dT D) v5 ln z1 D1 = some (.inl (g, dT D, v5 + 1, z2, D2)) ∧ LSt col2 D2 z2 g v3 (dT D) r l rl (some r) M B d ∧ dT D2 ≤ dT D + 1700 ∧ dS D2 ≤ dS D + 44000 := by
  obtain ⟨⟨h, H⟩, O, C, K, K1, K2, hM9⟩ := S
  have ho : 151 ≤ g ∧ g < dT D := ⟨H.o.1, H.o.2.1⟩
  have R1 := hR.1
  have R2 := hR.2
  obtain ⟨z1, y1, y2⟩ := x_save C K.1
  obtain ⟨D1, col1, h1, M1, w1, w2, w3, w4, w5, w6, w7⟩ := l_copyH H K.1 (by omega) (by omega)
  have hc : ∀ a, a < dT D → (col a).1 < dT D → col1 a = col a := fun a ha hb => by rw [w4 a ha, if_neg (by omega)]
  have t1 := w5.2.1
  have u1 := w5.2.2.2.1
  have O1 := O.mv ho w5 hc (Int.le_refl _) (by omega)
  have hb : HH col1 D1 (dT D) r M := ⟨h1, w2.mono (by omega) (by omega)⟩
  have nm : ∀ x ∈ g :: l, x < dT D := fun x hx => by
    rcases List.mem_cons.mp hx with q | q
    · rw [q]; exact ho.2
    · obtain ⟨i, hi, e⟩ := List.getElem_of_mem q
      have := (O.2.2.1 i hi).o.2.1
      rw [List.getD_eq_getElem?_getD, List.getElem?_eq_getElem hi] at this
      have this : l[i] < dT D := this
      rw [e] at this
      exact this
  have O2 : LO col1 D1 g v3 (dT D) l rl (some r) M := by
    obtain ⟨a, b, d, e, f, k⟩ := O1
    exact ⟨a, b, d, Or.inr ⟨r, rfl, hb⟩, f, fun q => by have := nm _ q; omega⟩
  have S1 : LSt col1 D1 z1 g v3 (dT D) r l rl (some r) M B d := ⟨⟨h, w3⟩, O2, y2, K, K1, fun q hq => by cases hq; exact K, hM9⟩
  obtain ⟨z2, D2, col2, m1, m2, m3⟩ := l_b394 (ln := ln) (v5 := v5) S1 hv (by omega) (by omega)
  have t2 := m3.2.1
  have u2 := m3.2.2.2.1
  exact ⟨z1, D1, y1, H.o, H.f3, w1, z2, D2, col2, m1, m2, by omega, by omega⟩
/-- restoring -/
theorem l_restR (S : LSt col D z g v3 v4 r l rl sv M B d) (hv : 0 ≤ v5 ∧ v5 ≤ 100) (hR : RM D) (hM : 200 ≤ M ∧ M + 1 < 900000) :
    ∃ z1 j v, fL_restore z = some (v, z1, j) ∧ j ≤ 1 ∧ (v4 = 0 → v = -1000000003) ∧ (v4 ≠ 0 → dO (djn j D) v4 7 ∧ dW (djn j D) v4 3 = v) ∧ ∃ g2 z2 D2 col2 r2 l2 rl2, fL_law_b276 g v3 v4 v5 v v ln z1 (djn j D) = some (.inl (g2, v4, v5 + 1, z2, D2)) ∧ LSt col2 D2 z2 g2 v3 v4 r2 l2 rl2 sv (M + 1) B d ∧ dT D2 ≤ dT D + 1800 ∧ dS D2 ≤ dS D + 44600 := by
  obtain ⟨⟨h, H⟩, O, C, K, K1, K2, hM9⟩ := S
  have ho : 151 ≤ g ∧ g < dT D := ⟨H.o.1, H.o.2.1⟩
  have R1 := hR.1
  have R2 := hR.2
  rcases O.2.2.2.1 with ⟨e4, es⟩ | ⟨s, es, hs⟩
  · subst es
    have e1 := ev_djn (D := D) 1
    have t1 := e1.2.1
    have u1 := e1.2.2.2.1
    have O1 := O.tmp ho e1 (by omega)
    have O1' : LO col (djn 1 D) g v3 v4 l rl none (M + 1) := O1.mv ⟨ho.1, by have := e1.1; omega⟩ (Ev.refl _ _) (fun _ _ _ => rfl) (by omega) (by omega)
    have S1 : LSt col (djn 1 D) z g v3 v4 r l rl none (M + 1) B d := ⟨⟨h, (H.tmp e1).mono (by omega) (by omega)⟩, O1', C, K, K1, K2, hM.2⟩
    obtain ⟨z2, D2, col2, w1, w2, w3⟩ := l_b394 (ln := ln) (v5 := v5) S1 hv (by omega) (by omega)
    have t2 := w3.2.1
    have u2 := w3.2.2.2.1
    refine ⟨z, 1, -1000000003, ?_, by decide, fun _ => rfl, fun q => absurd e4 q, g, z2, D2, col2, r, l, rl, ?_, w2, by omega, by omega⟩
    · unfold fL_restore
      rw [x_rest0 C]
      rfl
    · unfold fL_law_b276
      rw [if_pos rfl, if_pos e4]
      exact w1
  · subst es
    have Ks := K2 s rfl
    obtain ⟨hh, Hs⟩ := hs
    have h4 : 151 ≤ v4 ∧ v4 < dT D := ⟨Hs.o.1, Hs.o.2.1⟩
    obtain ⟨z1, y1, y2⟩ := x_rest C Ks.1
    obtain ⟨D1, col1, h1, M1, w1, w2, w3, w4, w5, w6, w7⟩ := l_copyH Hs Ks.1 (by omega) (by omega)
    have hc : ∀ a, a < dT D → (col a).1 < dT D → col1 a = col a := fun a ha hb => by rw [w4 a ha, if_neg (by omega)]
    have t1 := w5.2.1
    have u1 := w5.2.2.2.1
    have t10 := w5.1
    have n4 : ∀ x ∈ g :: l, x ≠ v4 := fun x hx q => O.2.2.2.2.2 (q ▸ hx)
    have O1 : LO col1 D1 g v3 v4 l rl (some s) M := O.cp h4 (r' := s) w5 hc ⟨hh, Hs⟩ ⟨hh, w3⟩ (fun i hi q => absurd q (n4 _ (List.mem_cons_of_mem _ (getD_memI hi)))) (fun _ => rfl) (by omega)
    have hb : HH col1 D1 (dT D) s M := ⟨h1, w2.mono (by omega) (by omega)⟩
    obtain ⟨D3, x1, x2, x3, x4⟩ := s_clr O1.1.1 (by omega)
    obtain ⟨col3, O3, c3, k3⟩ := O1.lst (g2 := dT D) (l2 := []) (rl2 := []) (by omega) x3 x2 (Or.inl x4) rfl (fun i hi => absurd hi (Nat.not_lt_zero i)) (List.nodup_cons.mpr ⟨fun q => (by cases q), List.nodup_nil⟩) (fun q => (List.mem_cons.mp q).elim (fun q => by omega) (fun q => (by cases q))) (by omega)
    have S3 : LSt col3 D3 z1 (dT D) v3 v4 s [] [] (some s) (M + 1) B d := ⟨k3 _ _ hb, O3, y2, Ks, fun q hq => (by cases hq), K2, hM.2⟩
    have t3 := x3.2.1
    have u3 := x3.2.2.2.1
    obtain ⟨z2, D2, col2, m1, m2, m3⟩ := l_b394 (ln := ln) (v5 := v5) S3 hv (by omega) (by omega)
    have t2 := m3.2.1
    have u2 := m3.2.2.2.1
    refine ⟨z1, 0, s 3, ?_, by decide, fun q => by omega, fun _ => ⟨Hs.o, Hs.f3⟩, dT D, z2, D2, col2, s, [], [], ?_, m2, by omega, by omega⟩
    · unfold fL_restore
      rw [y1]
      rfl
    · show fL_law_b276 g v3 v4 v5 (s 3) (s 3) ln z1 D = _
      unfold fL_law_b276
      rw [if_pos rfl, if_neg (by omega), if_pos ⟨by omega, by omega⟩, zl_eq, w1, Option.bind_some, x1, Option.bind_some, if_pos O1.1.1.1]
      exact m1
end HL7
