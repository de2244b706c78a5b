set_option maxRecDepth 20000
def chgT (g v3 v4 v5 b due : Int) (ln : Nat) (z : ZZ) (D : DD) : Option ((Int × Int × Int × ZZ × DD) ⊕ (Int × ZZ × DD)) :=
  Option.bind (fL_isError due D) fun r20 => (if (r20) = (0) then (Option.bind (fJx4a65c_size_8abf5 (v3) D) fun r22 => (if dO D (v3) 9 then (if (r22) = (8) then (Option.bind (fJx4a65c_remove_915e3 (v3) (0) D) fun q25 => match q25 with | (_, D25) => fL_law_b387 (g) (v3) (v4) (v5) (b) ln z D25) else fL_law_b387 (g) (v3) (v4) (v5) (b) ln z D) else none)) else fL_law_b394 (b) (v3) (v4) (v5) ln z D)
section HL8
variable {col col' : Col} {D D' : DD} {g g2 v3 v4 v5 b x w : Int} {r r' s : Row} {M M' c s' B d : Int} {l l2 : List Int} {rl rl2 : List Row} {sv : Option Row} {z z' : ZZ} {ln : Nat}
theorem LO.mono (h : LO col D g v3 v4 l rl sv M) (hg : 151 ≤ g ∧ g < dT D) (hm : M ≤ M') (h9 : M' < 1000000) : LO col D g v3 v4 l rl sv M' := h.mv hg (Ev.refl _ _) (fun _ _ _ => rfl) hm h9
theorem HH.mono (h : HH col D g r M) (hm : M ≤ M') (h9 : M' < 1000000) : HH col D g r M' := by
  obtain ⟨h, H⟩ := h
  exact ⟨h, H.mono hm h9⟩
/-- the hall before is put into the history -/
theorem l_b387 (hH : HH col D g r M) (O : LO col D g v3 v4 l rl sv M) (hb : HH col D b s M) (hnb : ¬ b ∈ g :: l) (h4b : v4 ≠ b) (hL : l.length ≤ 7) (C : CH z r (rl ++ [s]).reverse sv) (K : OKr B d r) (K1 : ∀ q ∈ rl ++ [s], OKr B d q) (K2 : ∀ q, sv = some q → OKr B d q) (hM : M + 1 < 900000) (hv : 0 ≤ v5 ∧ v5 ≤ 100) (hT : dT D + 2300 < 600000) (hS : dS D + 51000 ≤ 7200000) : ∃ z2 D2 col2, fL_law_b387 g v3 v4 v5 b ln z D = some (.inl (g, v4, v5 + 1, z2, D2)) ∧ LSt col2 D2 z2 g v3 v4 r (l ++ [b]) (rl ++ [s]) sv (M + 1) B d ∧ dT D2 ≤ dT D + 1101 ∧ dS D2 ≤ dS D + 36548 := by
  have bo := hb.o
  obtain ⟨D1, w1, w2, w3, w4⟩ := s_add O.1.1 (v := b) (by omega) (by omega) (Or.inr (Or.inl ⟨bo.1, bo.2.1, by rw [bo.2.2]; decide⟩)) (by omega) (by omega)
  have nd := O.2.2.2.2.1
  have hlen := O.2.1
  have ndl := List.nodup_cons.mp nd
  have nd2 : (g :: (l ++ [b])).Nodup := by
    refine List.nodup_cons.mpr ⟨fun q => ?_, ?_⟩
    · rcases List.mem_append.mp q with q | q
      · exact ndl.1 q
      · exact hnb (by rw [← List.mem_singleton.mp q]; exact List.mem_cons_self ..)
    · rw [List.nodup_append]
      refine ⟨ndl.2, List.nodup_cons.mpr ⟨fun q => (by cases q), List.nodup_nil⟩, fun a ha c hc q => ?_⟩
      rw [List.mem_singleton.mp hc] at q
      exact hnb (by rw [← q]; exact List.mem_cons_of_mem _ ha)
  have n4 : ¬ v4 ∈ g :: (l ++ [b]) := fun q => by
    rcases List.mem_cons.mp q with q | q
    · exact O.2.2.2.2.2 (by rw [q]; exact List.mem_cons_self ..)
    · rcases List.mem_append.mp q with q | q
      · exact O.2.2.2.2.2 (List.mem_cons_of_mem _ q)
      · exact h4b (List.mem_singleton.mp q)
  obtain ⟨col1, O1, c1, k1⟩ := O.lst (g2 := g) (l2 := l ++ [b]) (rl2 := rl ++ [s]) (by omega) w3 w2 w4 (by rw [List.length_append, List.length_append, hlen]; rfl) (fun i hi => by
    rw [List.length_append] at hi
    have hi : i < l.length + 1 := hi
    by_cases c : i < l.length
    · have := O.2.2.1 i c
      have e : (rl ++ [s]).getD i zrow = rl.getD i zrow := by
        rw [List.getD_eq_getElem?_getD, List.getD_eq_getElem?_getD, List.getElem?_append_left (by omega)]
      rw [getD_app, if_pos c, e]
      exact this
    · have ei : i = l.length := by omega
      have e : (rl ++ [s]).getD i zrow = s := by
        rw [List.getD_eq_getElem?_getD, List.getElem?_append_right (by omega), ei, hlen, Nat.sub_self]; rfl
      rw [getD_app, if_neg c, ei, Nat.sub_self, ← ei, e]
      exact hb) nd2 n4 (by omega)
  have S1 : LSt col1 D1 z g v3 v4 r (l ++ [b]) (rl ++ [s]) sv (M + 1) B d := ⟨k1 _ _ hH, O1, C, K, K1, K2, hM⟩
  have t1 := w3.2.1
  have u1 := w3.2.2.2.1
  obtain ⟨z2, D2, col2, m1, m2, m3⟩ := l_b394 (ln := ln) (v5 := v5) S1 hv (by omega) (by omega)
  have t2 := m3.2.1
  have u2 := m3.2.2.2.1
  refine ⟨z2, D2, col2, ?_, m2, by omega, by omega⟩
  unfold fL_law_b387
  rw [w1, Option.bind_some]
  dsimp only
  rw [if_pos O.1.1.1]
  exact m1
/-- a drawn call, to its round's end -/
theorem l_chgR (S : LSt col D z g v3 v4 r l rl sv M B d) (hv : 0 ≤ v5 ∧ v5 ≤ 100) (hR : RM D) (hM : 200 ≤ M ∧ M + 200 < 500000) (hB : B + 60 ≤ 900000) (hd : d ≤ 9000) (hx : 0 ≤ x ∧ x < 100000000) (hw : 0 ≤ w) :
    ∃ D1, fX6_init_ (dT D) g (dnew D 7 10) = some D1 ∧ ∃ due D2, fL_act g w x D1 = some (due, D2) ∧ dT D2 ≤ dT D + 1810 ∧ dS D2 ≤ dS D + 47510 ∧ ∃ z2 j, fL_call (dT D) w x ln z D2 = some (due, z2, j) ∧ j ≤ 1 ∧ ∃ g2 z3 D3 col3 r2 l2 rl2, chgT g v3 v4 v5 (dT D) due ln z2 (djn j D2) = some (.inl (g2, v4, v5 + 1, z3, D3)) ∧ LSt col3 D3 z3 g2 v3 v4 r2 l2 rl2 sv (M + 102) (B + 60) (d + 60) ∧ dT D3 ≤ dT D + 2950 ∧ dS D3 ≤ dS D + 84200 := by
  obtain ⟨⟨h, H⟩, O, C, K, K1, K2, hM9⟩ := S
  have ho : 151 ≤ g ∧ g < dT D := ⟨H.o.1, H.o.2.1⟩
  have R1 := hR.1
  have R2 := hR.2
  obtain ⟨D1, col1, h1, M1, w1, w2, w3, w4, w5, w6, w7⟩ := l_copyH H K.1 (by omega) (by omega)
  have hc : ∀ a, a < dT D → (col a).1 < dT D → col1 a = col a := fun a ha hb => by rw [w4 a ha, if_neg (by omega)]
  have t1 := w5.2.1
  have u1 := w5.2.2.2.1
  have t10 := w5.1
  have O1 := O.mv ho w5 hc (Int.le_refl _) (by omega)
  have hb1 : HH col1 D1 (dT D) r M := ⟨h1, w2.mono (by omega) (by omega)⟩
  have nm : ∀ x ∈ g :: l, x < dT D := fun x hx => by
    rcases List.mem_cons.mp hx with q | q
    · rw [q]; exact ho.2
    · obtain ⟨i, hi, e⟩ := List.getElem_of_mem q
      have := (O.2.2.1 i hi).o.2.1
      rw [List.getD_eq_getElem?_getD, List.getElem?_eq_getElem hi] at this
      have this : l[i] < dT D := this
      rw [e] at this
      exact this
  have n4 : v4 < dT D := by
    rcases O.2.2.2.1 with ⟨q, -⟩ | ⟨s, -, q⟩
    · omega
    · exact q.o.2.1
  have ho1 : 151 ≤ g ∧ g < dT D1 := ⟨ho.1, by omega⟩
  refine ⟨D1, w1, ?_⟩
  obtain ⟨due, D2, a1, a2⟩ := l_act (w := w) (x := x) w3 K.1 K.2.1 (by omega) (by have := K.2.2; omega) (by omega) hx hw (by omega) (by omega)
  have gb : (dT D) ≠ g := by omega
  have out : ∀ r0, Out col1 D1 g r0 M 1200 40000 100 D2 → ∃ col2 M2 h2, RLh col2 D2 g r0 M2 h2 ∧ M ≤ M2 ∧ M2 ≤ M + 100 ∧ LO col2 D2 g v3 v4 l rl sv M2 ∧ HH col2 D2 (dT D) r M2 ∧ dT D1 ≤ dT D2 ∧ dT D2 ≤ dT D1 + 1200 ∧ dS D2 ≤ dS D1 + 40000 := fun r0 q => by
    obtain ⟨col2, M2, h2, q1, q2, q3, q4, q5⟩ := q
    exact ⟨col2, M2, h2, q1, q4, q5, O1.mv ho1 q3 (fun a ha _ => q2 a ha) q4 (by omega), hb1.mv gb ho1 q3 (fun a ha _ => q2 a ha) q4 (by omega), q3.1, q3.2.1, q3.2.2.2.1⟩
  have up : ∀ q, OKr B d q → OKr (B + 60) (d + 60) q := fun q hq => hq.mono (by omega) (by omega) (by omega)
  have hlen := O.2.1
  rcases a2 with ⟨r', e1, e2, e3, e4, e5⟩ | ⟨E, e1, e2, e3, e4⟩
  · obtain ⟨col2, M2, h2, q1, q2, q3, q4, q5, q6, q7, q8⟩ := out r' e5
    obtain ⟨hb', Hb'⟩ := q5
    obtain ⟨z2, f1, f2, f3⟩ := e2 z C.1 ⟨by have := C.2.1; omega, by have := C.2.1; have := C.2.2.1; omega⟩ C.2.2.2.1
    have cl := (l_call (ln := ln) Hb' K.1 hx hw).1 z due z2 f1
    refine ⟨due, D2, a1, by omega, by omega, z2, 0, cl, by decide, ?_⟩
    have Kr' : OKr (B + 60) (d + 60) r' := ⟨e3, e4.1, by have := e4.2; have := K.2.2; omega⟩
    have C2 := C.chg f2 f3
    have L8 := C.2.2.1
    rw [List.length_reverse] at L8
    have ie : fL_isError due D2 = some 0 := by
      unfold fL_isError
      by_cases c : -1000000001 < due
      · rw [if_pos c]
      · rw [if_neg c, if_pos (by omega)]
    show ∃ g2 z3 D3 col3 r2 l2 rl2, chgT g v3 v4 v5 (dT D) due ln z2 D2 = _ ∧ _
    unfold chgT
    rw [ie, Option.bind_some, if_pos rfl, s_size q4.1.1, Option.bind_some, if_pos q4.1.1.1]
    by_cases c8 : l.length = 8
    · rw [if_pos (by omega)]
      obtain ⟨D3, x1, x2, x3, x4⟩ := s_rem q4.1.1 (i := 0) (by omega) (by omega)
      obtain ⟨y, l', rfl⟩ : ∃ y l', l = y :: l' := by
        cases l with
        | nil => cases c8
        | cons y l' => exact ⟨y, l', rfl⟩
      obtain ⟨p, rl', rfl⟩ : ∃ p rl', rl = p :: rl' := by
        cases rl with
        | nil => rw [hlen] at c8; cases c8
        | cons p rl' => exact ⟨p, rl', rfl⟩
      have hl7 : l'.length = 7 := by rw [List.length_cons] at c8; omega
      have hr7 : l'.length = rl'.length := by rw [List.length_cons, List.length_cons] at hlen; omega
      have nd := q4.2.2.2.2.1
      have nd1 := List.nodup_cons.mp nd
      have nd2 : (g :: l').Nodup := List.nodup_cons.mpr ⟨fun q => nd1.1 (List.mem_cons_of_mem _ q), (List.nodup_cons.mp nd1.2).2⟩
      have sub : ∀ a, a ∈ g :: l' → a ∈ g :: y :: l' := fun a q => (List.mem_cons.mp q).elim (fun q => by rw [q]; exact List.mem_cons_self ..) (fun q => List.mem_cons_of_mem _ (List.mem_cons_of_mem _ q))
      obtain ⟨col3, O3, c3, k3⟩ := q4.lst (g2 := g) (l2 := l') (rl2 := rl') (by omega) x3 x2 (Or.inl x4) hr7 (fun i hi => q4.2.2.1 (i + 1) (by rw [List.length_cons]; omega)) nd2 (fun q => q4.2.2.2.2.2 (sub _ q)) (by omega)
      have ce : ((rl' ++ [r]).reverse) = (r :: (p :: rl').reverse).take 8 := by
        rw [show (rl' ++ [r]).reverse = r :: rl'.reverse by rw [List.reverse_append]; rfl, List.reverse_cons]
        show r :: rl'.reverse = r :: (rl'.reverse ++ [p]).take 7
        rw [List.take_append_of_le_length (by rw [List.length_reverse]; omega), List.take_of_length_le (by rw [List.length_reverse]; omega)]
      rw [← ce] at C2
      have t3 := x3.2.1
      have u3 := x3.2.2.2.1
      obtain ⟨z3, D4, col4, m1, m2, m3, m4⟩ := l_b387 (ln := ln) (v5 := v5) (k3 _ _ ⟨h2, q1⟩) O3 (k3 _ _ ⟨hb', Hb'⟩) (fun q => by have := nm _ (sub _ q); omega) (by omega) (by omega) C2 Kr' (fun q hq => (List.mem_append.mp hq).elim (fun q1 => up _ (K1 _ (List.mem_cons_of_mem _ q1))) (fun q1 => by rw [List.mem_singleton.mp q1]; exact up _ K)) (fun q hq => up _ (K2 q hq)) (by omega) hv (by omega) (by omega)
      obtain ⟨s1, s2, s3, s4, s5, s6, s7⟩ := m2
      have hg4 : 151 ≤ g ∧ g < dT D4 := ⟨ho.1, s1.o.2.1⟩
      refine ⟨g, z3, D4, col4, r', l' ++ [dT D], rl' ++ [r], ?_, ⟨s1.mono (by omega) (by omega), s2.mono hg4 (by omega) (by omega), s3, s4, s5, s6, by omega⟩, by omega, by omega⟩
      rw [show (0 : Int) = ((0 : Nat) : Int) from rfl, x1, Option.bind_some]
      exact m1
    · rw [if_neg (by omega)]
      have ce : ((rl ++ [r]).reverse) = (r :: rl.reverse).take 8 := by
        rw [List.reverse_append, List.take_of_length_le (by rw [List.length_cons, List.length_reverse]; omega)]
        rfl
      rw [← ce] at C2
      obtain ⟨z3, D4, col4, m1, m2, m3, m4⟩ := l_b387 (ln := ln) (v5 := v5) ⟨h2, q1⟩ q4 ⟨hb', Hb'⟩ (fun q => by have := nm _ q; omega) (by omega) (by omega) C2 Kr' (fun q hq => (List.mem_append.mp hq).elim (fun q1 => up _ (K1 _ q1)) (fun q1 => by rw [List.mem_singleton.mp q1]; exact up _ K)) (fun q hq => up _ (K2 q hq)) (by omega) hv (by omega) (by omega)
      obtain ⟨s1, s2, s3, s4, s5, s6, s7⟩ := m2
      have hg4 : 151 ≤ g ∧ g < dT D4 := ⟨ho.1, s1.o.2.1⟩
      exact ⟨g, z3, D4, col4, r', l ++ [dT D], rl ++ [r], m1, ⟨s1.mono (by omega) (by omega), s2.mono hg4 (by omega) (by omega), s3, s4, s5, s6, by omega⟩, by omega, by omega⟩
  · obtain ⟨col2, M2, h2, q1, q2, q3, q4, q5, q6, q7, q8⟩ := out r e4
    obtain ⟨hb', Hb'⟩ := q5
    obtain ⟨z2, f1, f2⟩ := e3 z C.1
    have cl := (l_call (ln := ln) Hb' K.1 hx hw).2 z E z2 f1
    rw [← e2] at cl
    have E1 := ev_djn (D := D2) 1
    have t3 := E1.2.1
    have u3 := E1.2.2.2.1
    refine ⟨due, D2, a1, by omega, by omega, z2, 1, cl, by decide, ?_⟩
    have ie : fL_isError due (djn 1 D2) = some 1 := by
      unfold fL_isError
      rw [if_neg (by omega), if_neg (by omega)]
    have ho2 : 151 ≤ g ∧ g < dT D2 := ⟨ho.1, by omega⟩
    have O3 := q4.tmp ho2 E1 (by omega)
    have nd1 := List.nodup_cons.mp O3.2.2.2.2.1
    have O4 : LO col2 (djn 1 D2) (dT D) v3 v4 l rl sv M2 := ⟨O3.1, O3.2.1, O3.2.2.1, O3.2.2.2.1, List.nodup_cons.mpr ⟨fun q => by have := nm _ (List.mem_cons_of_mem _ q); omega, nd1.2⟩, fun q => (List.mem_cons.mp q).elim (fun q => by omega) (fun q => O3.2.2.2.2.2 (List.mem_cons_of_mem _ q))⟩
    have hb3 : HH col2 (djn 1 D2) (dT D) r M2 := HH.tmp ⟨hb', Hb'⟩ E1
    have hob : 151 ≤ dT D ∧ dT D < dT (djn 1 D2) := ⟨by omega, hb3.o.2.1⟩
    have S4 : LSt col2 (djn 1 D2) z2 (dT D) v3 v4 r l rl sv (M + 102) (B + 60) (d + 60) := ⟨hb3.mono (by omega) (by omega), O4.mono hob (by omega) (by omega), C.f12 f2, up _ K, fun q hq => up _ (K1 q hq), fun q hq => up _ (K2 q hq), by omega⟩
    obtain ⟨z3, D4, col4, m1, m2, m3⟩ := l_b394 (ln := ln) (v5 := v5) S4 hv (by omega) (by omega)
    have t4 := m3.2.1
    have u4 := m3.2.2.2.1
    refine ⟨dT D, z3, D4, col4, r, l, rl, ?_, m2, by omega, by omega⟩
    unfold chgT
    rw [ie, Option.bind_some, if_neg (by decide)]
    exact m1
end HL8
