set_option maxRecDepth 20000
/-! the text of a setup, read back -/
def At0 (b : Int → Int) (p : Int) (l : List Int) : Prop := ∀ i : Nat, b (p + i) = l.getD i 0
theorem At0.app {b : Int → Int} {p : Int} {x y : List Int} (h : At0 b p (x ++ y)) : At b p x ∧ At0 b (p + x.length) y := by
  refine ⟨fun i hi => ?_, fun i => ?_⟩
  · rw [h i, getD_app, if_pos hi]
  · have := h (x.length + i)
    rw [getD_app, if_neg (by omega), show x.length + i - x.length = i by omega] at this
    rw [← this]
    congr 1
    omega
theorem At0.hd {b : Int → Int} {p : Int} {l : List Int} (h : At0 b p l) : b p = l.getD 0 0 := by
  have := h 0
  rw [← this]
  congr 1
  omega
theorem At.hd {b : Int → Int} {p : Int} {x : Int} {l : List Int} (h : At b p (x :: l)) : b p = x := by
  have := h 0 (by simp)
  have e : b (p + (0 : Int)) = x := this
  rw [Int.add_zero] at e
  exact e
theorem At.tl {b : Int → Int} {p : Int} {x : Int} {l : List Int} (h : At b p (x :: l)) : At b (p + 1) l := fun i hi => by
  have := h (i + 1) (by simpa using hi)
  rw [show p + 1 + (i : Int) = p + ((i + 1 : Nat) : Int) by omega, this]
  rfl
def rpF (f : Int → List Int) (i : Int) : Nat → List Int
  | 0 => []
  | n + 1 => f i ++ rpF f (i + 1) n
theorem rpF_s {f : Int → List Int} : ∀ (n : Nat) (i : Int), rpF f i (n + 1) = rpF f i n ++ f (i + n)
  | 0, i => by
    show f i ++ [] = [] ++ f (i + (0 : Nat))
    rw [List.append_nil, List.nil_append]
    congr 1
    omega
  | n + 1, i => by
    show f i ++ rpF f (i + 1) (n + 1) = (f i ++ rpF f (i + 1) n) ++ f (i + (n + 1 : Nat))
    rw [rpF_s n (i + 1), List.append_assoc, show i + 1 + (n : Int) = i + (n + 1 : Nat) by omega]
theorem rp_F {f : Int → List Int} : ∀ n : Nat, rp f n = rpF f 0 n
  | 0 => rfl
  | n + 1 => by
    show rp f n ++ f n = _
    rw [rpF_s, rp_F n]
    congr 2
    omega
/-- behind a statement -/
def aft (b : Int → Int) (L : Int) (n : Nat) (q : Int) (r : Row) (h : Int) : Int ⊕ Row := if L ≤ tS b q then .inr r else if b (tS b q) = 59 then prs b L n (tE b L (tS b q)) r h else .inl (tS b q)
theorem prs_s {b : Int → Int} {L p q h h' : Int} {r r' : Row} {n : Nat} (e : stm b L p r h = .inr (q, r', h')) : prs b L (n + 1) p r h = aft b L n q r' h' := by
  show (match stm b L p r h with
    | .inl x => Sum.inl x
    | .inr (q, r', h') => if L ≤ tS b q then .inr r' else if b (tS b q) = 59 then prs b L n (tE b L (tS b q)) r' h' else .inl (tS b q)) = _
  rw [e]
  rfl
theorem aft_e {b : Int → Int} {L h : Int} {r : Row} {n : Nat} (h0 : b L = 0) : aft b L n L r h = .inr r := by
  unfold aft
  rw [tS_0 (by rw [h0]; decide), if_pos (Int.le_refl _)]
theorem aft_1 {b : Int → Int} {L q h : Int} {r : Row} {n : Nat} (hL : ∀ k, L ≤ k → b k = 0) (h0 : b q = 59) : aft b L n q r h = prs b L n (q + 1) r h := by
  have hq : ¬ L ≤ q := fun c => by have := hL q c; omega
  unfold aft
  rw [tS_0 (by rw [h0]; decide), if_neg hq, if_pos h0]
  unfold tE
  rw [if_neg (by unfold isLt; omega), if_neg (by unfold isDg; omega), if_pos (by omega)]
theorem aft_2 {b : Int → Int} {L q h : Int} {r : Row} {n : Nat} (hL : ∀ k, L ≤ k → b k = 0) (h0 : b q = 32) (h1 : b (q + 1) = 59) : aft b L n q r h = prs b L n (q + 2) r h := by
  have hq : ¬ L ≤ q + 1 := fun c => by have := hL (q + 1) c; omega
  unfold aft
  rw [tS_1 h0 (by rw [h1]; decide), if_neg hq, if_pos h1]
  unfold tE
  rw [if_neg (by unfold isLt; omega), if_neg (by unfold isDg; omega), if_pos (by omega), show q + 1 + 1 = q + 2 by omega]
theorem sch_v : sch 1000105 = [114, 117, 108, 101, 115] ++ [32] ∧ sch 1000106 = [32] ∧ sch 1000108 = [59] ++ ([119, 97, 108, 108] ++ [32]) ∧ sch 1000109 = [32, 59, 32] ++ ([104, 97, 114, 110, 101, 115, 115] ++ [32]) ∧ sch 1000110 = [59] ++ ([109, 101, 109, 98, 101, 114] ++ [32]) ∧ sch 1000111 = [59] ++ ([99, 111, 117, 114, 115, 101] ++ [32]) := by decide +kernel
section ST
variable {b : Int → Int} {L p s u v w h : Int} {r : Row}
theorem stm_wall (ht : tS b p = s) (ha : At b s [119, 97, 108, 108]) (hb : b (s + 4) = 32) (hc : At b (s + 4 + 1) (nm u ++ [32] ++ nm v ++ [32] ++ nm w)) (hn : ¬ isDg (b (s + 4 + 1 + (nm u ++ [32] ++ nm v ++ [32] ++ nm w).length))) (gu : 0 ≤ u ∧ u < 100) (gv : 0 ≤ v ∧ v < 100) (gw : 0 ≤ w ∧ w < 100) (ru : 3 ≤ u ∧ u ≤ 30) (rv : 0 ≤ v ∧ v ≤ 5) (rw : 1 ≤ w ∧ w ≤ 60) (h8 : r 4 < 8) : stm b L p r h = .inr (s + 4 + 1 + (nm u ++ [32] ++ nm v ++ [32] ++ nm w).length, wallR r u v w, h) := by
  obtain ⟨-, e2⟩ := wdAt (L := L) ha (by decide) (by decide) (by decide) (by show ¬ isLt (b (s + 4)); rw [hb]; decide)
  have e2 : tE b L s = s + 4 := e2
  unfold stm
  rw [ht, e2, wK_wall ha, if_neg (by decide), if_pos rfl, if_pos h8, n3_nm hb gu gv gw hc hn ru rv rw]
theorem stm_harn (ht : tS b p = s) (ha : At b s [104, 97, 114, 110, 101, 115, 115]) (hb : b (s + 7) = 32) (hc : At b (s + 7 + 1) (nm u ++ [32] ++ nm v)) (hn : ¬ isDg (b (s + 7 + 1 + (nm u ++ [32] ++ nm v).length))) (gu : 0 ≤ u ∧ u < 100) (gv : 0 ≤ v ∧ v < 100) (ru : 0 ≤ u ∧ u ≤ 3) (rv : 1 ≤ v ∧ v ≤ 365) (h8 : r 470 < 15) : stm b L p r h = .inr (s + 7 + 1 + (nm u ++ [32] ++ nm v).length, harnR r u v, h) := by
  obtain ⟨-, e2⟩ := wdAt (L := L) ha (by decide) (by decide) (by decide) (by show ¬ isLt (b (s + 7)); rw [hb]; decide)
  have e2 : tE b L s = s + 7 := e2
  unfold stm
  rw [ht, e2, wK_harn ha, if_neg (by decide), if_neg (by decide), if_pos rfl, if_pos h8, n2_nm hb gu gv hc hn ru rv]
theorem stm_memb (ht : tS b p = s) (ha : At b s [109, 101, 109, 98, 101, 114]) (hb : b (s + 6) = 32) (hc : At b (s + 6 + 1) (nm u ++ [32] ++ nm v)) (hn : ¬ isDg (b (s + 6 + 1 + (nm u ++ [32] ++ nm v).length))) (gu : 0 ≤ u ∧ u < 100) (gv : 0 ≤ v ∧ v < 100) (ru : 0 ≤ u ∧ u ≤ 3) (rv : 0 ≤ v ∧ v ≤ 5) (h8 : r 546 < 12) : stm b L p r h = .inr (s + 6 + 1 + (nm u ++ [32] ++ nm v).length, membR r u v, h) := by
  obtain ⟨-, e2⟩ := wdAt (L := L) ha (by decide) (by decide) (by decide) (by show ¬ isLt (b (s + 6)); rw [hb]; decide)
  have e2 : tE b L s = s + 6 := e2
  unfold stm
  rw [ht, e2, wK_memb ha, if_neg (by decide), if_neg (by decide), if_neg (by decide), if_pos rfl, if_pos h8, n2_nm hb gu gv hc hn ru rv]
theorem stm_cour (ht : tS b p = s) (ha : At b s [99, 111, 117, 114, 115, 101]) (hb : b (s + 6) = 32) (hc : At b (s + 6 + 1) (nm u ++ [32] ++ nm v ++ [32] ++ nm w)) (hn : ¬ isDg (b (s + 6 + 1 + (nm u ++ [32] ++ nm v ++ [32] ++ nm w).length))) (gu : 0 ≤ u ∧ u < 100) (gv : 0 ≤ v ∧ v < 100) (gw : 0 ≤ w ∧ w < 100) (ru : 1 ≤ u ∧ u ≤ 5) (rv : 1 ≤ v ∧ v ≤ 12) (rw : 0 ≤ w ∧ w ≤ 200) (h8 : r 619 < 8) : stm b L p r h = .inr (s + 6 + 1 + (nm u ++ [32] ++ nm v ++ [32] ++ nm w).length, courR r u v w, h) := by
  obtain ⟨-, e2⟩ := wdAt (L := L) ha (by decide) (by decide) (by decide) (by show ¬ isLt (b (s + 6)); rw [hb]; decide)
  have e2 : tE b L s = s + 6 := e2
  unfold stm
  rw [ht, e2, wK_cour ha, if_neg (by decide), if_neg (by decide), if_neg (by decide), if_neg (by decide), if_pos rfl, if_pos h8, n3_nm hb gu gv gw hc hn ru rv rw]
theorem stm_rules (ht : tS b p = s) (ha : At b s [114, 117, 108, 101, 115]) (hb : b (s + 5) = 32) (hc : At b (s + 5 + 1) (nm u ++ [32] ++ nm v ++ [32] ++ nm w)) (hn : ¬ isDg (b (s + 5 + 1 + (nm u ++ [32] ++ nm v ++ [32] ++ nm w).length))) (gu : 0 ≤ u ∧ u < 100) (gv : 0 ≤ v ∧ v < 100) (gw : 0 ≤ w ∧ w < 100) (ru : 0 ≤ u ∧ u ≤ 40) (rv : 0 ≤ v ∧ v ≤ 10) (rw : 1 ≤ w ∧ w ≤ 200) (h8 : h = 0) : stm b L p r h = .inr (s + 5 + 1 + (nm u ++ [32] ++ nm v ++ [32] ++ nm w).length, rulesR r u v w, 1) := by
  obtain ⟨-, e2⟩ := wdAt (L := L) ha (by decide) (by decide) (by decide) (by show ¬ isLt (b (s + 5)); rw [hb]; decide)
  have e2 : tE b L s = s + 5 := e2
  unfold stm
  rw [ht, e2, wK_rules ha, if_pos rfl, if_pos h8, n3_nm hb gu gv gw hc hn ru rv rw]
end ST
section AF
variable {b : Int → Int} {L q u v w h : Int} {r : Row} {n : Nat} {l : List Int}
theorem aft_wall (hL : ∀ k, L ≤ k → b k = 0) (ha : At0 b q (tx3 1000108 u v w ++ l)) (hl : ¬ isDg (l.getD 0 0)) (gu : 0 ≤ u ∧ u < 100) (gv : 0 ≤ v ∧ v < 100) (gw : 0 ≤ w ∧ w < 100) (ru : 3 ≤ u ∧ u ≤ 30) (rv : 0 ≤ v ∧ v ≤ 5) (rw : 1 ≤ w ∧ w ≤ 60) (h8 : r 4 < 8) : aft b L (n + 1) q r h = aft b L n (q + (tx3 1000108 u v w).length) (wallR r u v w) h ∧ At0 b (q + (tx3 1000108 u v w).length) l := by
  have e : tx3 1000108 u v w = [59] ++ ([119, 97, 108, 108] ++ [32] ++ (nm u ++ [32] ++ nm v ++ [32] ++ nm w)) := by
    unfold tx3
    rw [sch_v.2.2.1]
    simp only [List.append_assoc]
  have len : ((tx3 1000108 u v w).length : Int) = 1 + 4 + 1 + (nm u ++ [32] ++ nm v ++ [32] ++ nm w).length := by
    rw [e]
    simp only [List.length_append, List.length_cons, List.length_nil]
    omega
  obtain ⟨a0, z0⟩ := ha.app
  refine ⟨?_, z0⟩
  have zh := z0.hd
  rw [len] at zh ⊢
  rw [e] at a0
  obtain ⟨a1, a2⟩ := a0.app
  have a2 : At b (q + 1) ([119, 97, 108, 108] ++ [32] ++ (nm u ++ [32] ++ nm v ++ [32] ++ nm w)) := a2
  obtain ⟨a2', a3⟩ := a2.app
  have a3 : At b (q + 1 + 5) (nm u ++ [32] ++ nm v ++ [32] ++ nm w) := a3
  rw [show q + 1 + 5 = q + 1 + 4 + 1 by omega] at a3
  obtain ⟨c1, c2⟩ := a2'.app
  have c2 : At b (q + 1 + 4) [32] := c2
  have b0 := a1.hd
  have as : ∀ N : Int, q + 1 + 4 + 1 + N = q + (1 + 4 + 1 + N) := fun N => by omega
  rw [aft_1 hL b0]
  have t : tS b (q + 1) = q + 1 := tS_0 (by rw [c1.hd]; decide)
  rw [prs_s (stm_wall t c1 c2.hd a3 ?hn gu gv gw ru rv rw h8)]
  case hn =>
    rw [as, zh]
    exact hl
  rw [as]
theorem aft_harn (hL : ∀ k, L ≤ k → b k = 0) (ha : At0 b q (tx2 1000109 u v ++ l)) (hl : ¬ isDg (l.getD 0 0)) (gu : 0 ≤ u ∧ u < 100) (gv : 0 ≤ v ∧ v < 100) (ru : 0 ≤ u ∧ u ≤ 3) (rv : 1 ≤ v ∧ v ≤ 365) (h8 : r 470 < 15) : aft b L (n + 1) q r h = aft b L n (q + (tx2 1000109 u v).length) (harnR r u v) h ∧ At0 b (q + (tx2 1000109 u v).length) l := by
  have e : tx2 1000109 u v = [32, 59, 32] ++ ([104, 97, 114, 110, 101, 115, 115] ++ [32] ++ (nm u ++ [32] ++ nm v)) := by
    unfold tx2
    rw [sch_v.2.2.2.1]
    simp only [List.append_assoc]
  have len : ((tx2 1000109 u v).length : Int) = 3 + 7 + 1 + (nm u ++ [32] ++ nm v).length := by
    rw [e]
    simp only [List.length_append, List.length_cons, List.length_nil]
    omega
  obtain ⟨a0, z0⟩ := ha.app
  refine ⟨?_, z0⟩
  have zh := z0.hd
  rw [len] at zh ⊢
  rw [e] at a0
  obtain ⟨a1, a2⟩ := a0.app
  have a2 : At b (q + 3) ([104, 97, 114, 110, 101, 115, 115] ++ [32] ++ (nm u ++ [32] ++ nm v)) := a2
  obtain ⟨a2', a3⟩ := a2.app
  have a3 : At b (q + 3 + 8) (nm u ++ [32] ++ nm v) := a3
  rw [show q + 3 + 8 = q + 3 + 7 + 1 by omega] at a3
  obtain ⟨c1, c2⟩ := a2'.app
  have c2 : At b (q + 3 + 7) [32] := c2
  have b0 := a1.hd
  have as : ∀ N : Int, q + 3 + 7 + 1 + N = q + (3 + 7 + 1 + N) := fun N => by omega
  have b1 : b (q + 1) = 59 := a1.tl.hd
  have b2 : b (q + 1 + 1) = 32 := a1.tl.tl.hd
  rw [aft_2 hL b0 b1]
  have t : tS b (q + 2) = q + 3 := by
    have := tS_1 (b := b) (p := q + 2) (by rw [← b2]; congr 1; omega) (by rw [show q + 2 + 1 = q + 3 by omega, c1.hd]; decide)
    rw [this]; omega
  rw [prs_s (stm_harn t c1 c2.hd a3 ?hn gu gv ru rv h8)]
  case hn =>
    rw [as, zh]
    exact hl
  rw [as]
theorem aft_memb (hL : ∀ k, L ≤ k → b k = 0) (ha : At0 b q (tx2 1000110 u v ++ l)) (hl : ¬ isDg (l.getD 0 0)) (gu : 0 ≤ u ∧ u < 100) (gv : 0 ≤ v ∧ v < 100) (ru : 0 ≤ u ∧ u ≤ 3) (rv : 0 ≤ v ∧ v ≤ 5) (h8 : r 546 < 12) : aft b L (n + 1) q r h = aft b L n (q + (tx2 1000110 u v).length) (membR r u v) h ∧ At0 b (q + (tx2 1000110 u v).length) l := by
  have e : tx2 1000110 u v = [59] ++ ([109, 101, 109, 98, 101, 114] ++ [32] ++ (nm u ++ [32] ++ nm v)) := by
    unfold tx2
    rw [sch_v.2.2.2.2.1]
    simp only [List.append_assoc]
  have len : ((tx2 1000110 u v).length : Int) = 1 + 6 + 1 + (nm u ++ [32] ++ nm v).length := by
    rw [e]
    simp only [List.length_append, List.length_cons, List.length_nil]
    omega
  obtain ⟨a0, z0⟩ := ha.app
  refine ⟨?_, z0⟩
  have zh := z0.hd
  rw [len] at zh ⊢
  rw [e] at a0
  obtain ⟨a1, a2⟩ := a0.app
  have a2 : At b (q + 1) ([109, 101, 109, 98, 101, 114] ++ [32] ++ (nm u ++ [32] ++ nm v)) := a2
  obtain ⟨a2', a3⟩ := a2.app
  have a3 : At b (q + 1 + 7) (nm u ++ [32] ++ nm v) := a3
  rw [show q + 1 + 7 = q + 1 + 6 + 1 by omega] at a3
  obtain ⟨c1, c2⟩ := a2'.app
  have c2 : At b (q + 1 + 6) [32] := c2
  have b0 := a1.hd
  have as : ∀ N : Int, q + 1 + 6 + 1 + N = q + (1 + 6 + 1 + N) := fun N => by omega
  rw [aft_1 hL b0]
  have t : tS b (q + 1) = q + 1 := tS_0 (by rw [c1.hd]; decide)
  rw [prs_s (stm_memb t c1 c2.hd a3 ?hn gu gv ru rv h8)]
  case hn =>
    rw [as, zh]
    exact hl
  rw [as]
theorem aft_cour (hL : ∀ k, L ≤ k → b k = 0) (ha : At0 b q (tx3 1000111 u v w ++ l)) (hl : ¬ isDg (l.getD 0 0)) (gu : 0 ≤ u ∧ u < 100) (gv : 0 ≤ v ∧ v < 100) (gw : 0 ≤ w ∧ w < 100) (ru : 1 ≤ u ∧ u ≤ 5) (rv : 1 ≤ v ∧ v ≤ 12) (rw : 0 ≤ w ∧ w ≤ 200) (h8 : r 619 < 8) : aft b L (n + 1) q r h = aft b L n (q + (tx3 1000111 u v w).length) (courR r u v w) h ∧ At0 b (q + (tx3 1000111 u v w).length) l := by
  have e : tx3 1000111 u v w = [59] ++ ([99, 111, 117, 114, 115, 101] ++ [32] ++ (nm u ++ [32] ++ nm v ++ [32] ++ nm w)) := by
    unfold tx3
    rw [sch_v.2.2.2.2.2]
    simp only [List.append_assoc]
  have len : ((tx3 1000111 u v w).length : Int) = 1 + 6 + 1 + (nm u ++ [32] ++ nm v ++ [32] ++ nm w).length := by
    rw [e]
    simp only [List.length_append, List.length_cons, List.length_nil]
    omega
  obtain ⟨a0, z0⟩ := ha.app
  refine ⟨?_, z0⟩
  have zh := z0.hd
  rw [len] at zh ⊢
  rw [e] at a0
  obtain ⟨a1, a2⟩ := a0.app
  have a2 : At b (q + 1) ([99, 111, 117, 114, 115, 101] ++ [32] ++ (nm u ++ [32] ++ nm v ++ [32] ++ nm w)) := a2
  obtain ⟨a2', a3⟩ := a2.app
  have a3 : At b (q + 1 + 7) (nm u ++ [32] ++ nm v ++ [32] ++ nm w) := a3
  rw [show q + 1 + 7 = q + 1 + 6 + 1 by omega] at a3
  obtain ⟨c1, c2⟩ := a2'.app
  have c2 : At b (q + 1 + 6) [32] := c2
  have b0 := a1.hd
  have as : ∀ N : Int, q + 1 + 6 + 1 + N = q + (1 + 6 + 1 + N) := fun N => by omega
  rw [aft_1 hL b0]
  have t : tS b (q + 1) = q + 1 := tS_0 (by rw [c1.hd]; decide)
  rw [prs_s (stm_cour t c1 c2.hd a3 ?hn gu gv gw ru rv rw h8)]
  case hn =>
    rw [as, zh]
    exact hl
  rw [as]
end AF
