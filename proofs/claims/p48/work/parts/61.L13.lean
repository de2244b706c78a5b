set_option maxRecDepth 20000
/-! the sorted ballot and the counted one -/
def cL (l : List Int) (g : Int) : Nat := (l.filter (fun x => decide (x = g))).length
def cB (l : List Int) (g : Int) : Nat := (l.filter (fun x => decide (x < g))).length
theorem cB_succ : ∀ (l : List Int) (g : Int), cB l (g + 1) = cB l g + cL l g
  | [], _ => rfl
  | x :: l, g => by
    have ih := cB_succ l g
    unfold cB cL at ih ⊢
    simp only [List.filter_cons]
    by_cases h1 : x < g
    · have h2 : x < g + 1 := by omega
      have h3 : ¬ x = g := by omega
      simp [h1, h2, h3, ih]
      omega
    · by_cases h3 : x = g
      · have h2 : x < g + 1 := by omega
        rw [show decide (x < g) = false by simp [h1], show decide (x = g) = true by simp [h3], show decide (x < g + 1) = true by simp [h2]]
        simp only [if_true, Bool.false_eq_true, if_false, List.length_cons]
        omega
      · have h2 : ¬ x < g + 1 := by omega
        simp [h1, h2, h3, ih]
theorem cB_le (l : List Int) (g : Int) : cB l g ≤ l.length := List.length_filter_le _ _
theorem sorted_lt : ∀ {l : List Int} (_ : sorted l) (g : Int) (i : Nat), i < l.length → (l.getD i 0 < g ↔ i < cB l g)
  | [], _, _, _, h => by cases h
  | x :: l, hs, g, i, hi => by
    rw [sorted, List.pairwise_cons] at hs
    unfold cB
    simp only [List.filter_cons]
    by_cases h1 : x < g
    · simp only [h1, decide_true, if_true, List.length_cons]
      cases i with
      | zero => simp [h1]
      | succ i =>
        have := sorted_lt (l := l) hs.2 g i (by simpa using hi)
        unfold cB at this
        simp only [List.getD_cons_succ, Nat.add_lt_add_iff_right]
        exact this
    · have he : l.filter (fun x => decide (x < g)) = [] := by
        rw [List.filter_eq_nil_iff]
        intro y hy
        have := hs.1 y hy
        simp
        omega
      simp only [h1, decide_false, he]
      have h2 : g ≤ (x :: l).getD i 0 := by
        have := getD_mem (l := x :: l) hi
        rcases List.mem_cons.mp this with q | q
        · rw [q]; omega
        · have := hs.1 _ q; omega
      rw [if_neg (by decide)]
      exact ⟨fun q => by omega, fun q => absurd q (Nat.not_lt_zero _)⟩
theorem sorted_at {l : List Int} (hs : sorted l) {g : Int} {i : Nat} (hi : i < l.length) (h1 : cB l g ≤ i) (h2 : i < cB l (g + 1)) : l.getD i 0 = g := by
  have a := (sorted_lt hs g i hi)
  have b := (sorted_lt hs (g + 1) i hi).mpr h2
  have : ¬ l.getD i 0 < g := fun q => by have := a.mp q; omega
  omega
theorem cut_run {l : List Int} (hs : sorted l) {g : Int} {d : Nat} : ∀ (k n : Nat), d + n + k ≤ l.length → (k = 0 ∨ (cB l g ≤ d + n ∧ d + n + k ≤ cB l (g + 1))) → cutS l d (n + k) = cutS l d n + k * g
  | 0, n, _, _ => by simp
  | k + 1, n, h1, h2 => by
    have h2 := h2.resolve_left (by omega)
    rw [← Nat.add_assoc, cutS_succ (by omega), cut_run hs k n (by omega) (by rcases Nat.eq_zero_or_pos k with q | q; exact Or.inl q; exact Or.inr ⟨h2.1, by omega⟩), show d + (n + k) = d + n + k by omega, sorted_at hs (g := g) (by omega) (by omega) (by omega)]
    have : ((k + 1 : Nat) : Int) * g = k * g + g := by rw [Int.natCast_add, Int.add_mul]; simp
    rw [this]
    omega
theorem cut_fold {l : List Int} (hs : sorted l) (hb : ∀ v ∈ l, 0 ≤ v ∧ v ≤ 29) {d : Nat} (hd : d + d ≤ l.length) {b : Int → Int} (hc : ∀ g, 0 ≤ g → g < 30 → b g = (cL l g : Int)) :
    (ita (tF d l.length b) 30 0 (0, 0)).2 = cutS l d (l.length - d - d) := by
  have key := ita_P (f := tF (d : Int) l.length b) (fun g q => q.1 = (cB l g : Int) ∧ q.2 = cutS l d (min (cB l g) (l.length - d) - d)) 30 0 (0, 0)
    (by
      have : cB l 0 = 0 := by
        unfold cB
        rw [List.length_eq_zero_iff, List.filter_eq_nil_iff]
        intro y hy
        have := hb y hy
        simp
        omega
      rw [this]
      exact ⟨rfl, by simp [cutS]⟩)
    (fun g q g0 g1 hq => by
      obtain ⟨q1, q2⟩ := q
      obtain ⟨h1, h2⟩ := hq
      have h1 : q1 = (cB l g : Int) := h1
      have h2 : q2 = cutS l d (min (cB l g) (l.length - d) - d) := h2
      have hs1 := cB_succ l g
      have hle := cB_le l (g + 1)
      have hbg := hc g g0 (by omega)
      refine ⟨?_, ?_⟩
      · show q1 + b g = _
        rw [h1, hbg, hs1]
        omega
      · show q2 + max 0 (min (q1 + b g) ((l.length : Int) - d) - max q1 d) * g = _
        rw [h2, h1, hbg]
        generalize hn1 : min (cB l g) (l.length - d) - d = n1
        generalize hk : (min (cB l (g + 1)) (l.length - d) - d) - n1 = k
        have e1 : min (cB l (g + 1)) (l.length - d) - d = n1 + k := by omega
        have e2 : max 0 (min ((cB l g : Int) + (cL l g : Int)) ((l.length : Int) - d) - max (cB l g : Int) d) = (k : Int) := by omega
        rw [e1, e2, cut_run hs (g := g) k n1 (by omega) (by
          rcases Nat.eq_zero_or_pos k with q | q
          · exact Or.inl q
          · exact Or.inr ⟨by omega, by omega⟩)])
  have e : (0 : Int) + (30 : Nat) = 30 := rfl
  rw [e] at key
  rw [key.2]
  have : cB l 30 = l.length := by
    unfold cB
    rw [List.filter_eq_self.mpr]
    intro y hy
    have := hb y hy
    simp
    omega
  rw [this]
  congr 1
  omega
theorem cL_perm {l l' : List Int} (h : l.Perm l') (g : Int) : cL l g = cL l' g := (h.filter _).length_eq
theorem cL_app (l l' : List Int) (g : Int) : cL (l ++ l') g = cL l g + cL l' g := by unfold cL; simp
theorem cL_rep (n : Nat) (s g : Int) : cL (List.replicate n s) g = if s = g then n else 0 := by
  unfold cL
  rw [List.filter_replicate]
  by_cases h : s = g <;> simp [h]
theorem srt_nodup {L : List (Int × Int)} (h : srt L) : L.Nodup := h.imp (fun {a b} q e => by rw [e] at q; omega)
theorem cnt_VT {L : List (Int × Int)} {f : Int → Int} {n : Int} (h : VT L f n) (p : Int → Prop) [∀ v, Decidable (p v)] : ∀ k : Nat, (k : Int) ≤ n → (((L.filter (fun q : Int × Int => decide (q.1 < (k : Int) ∧ p q.2))).length : Nat) : Int) = sCnt (k : Int) (fun m => f m ≠ -1 ∧ p (f m))
  | 0, _ => by
    have : L.filter (fun q => decide (q.1 < ((0 : Nat) : Int) ∧ p q.2)) = [] := by
      rw [List.filter_eq_nil_iff]
      intro q hq
      have := (h.2.1 q hq).1.1
      simp
      omega
    rw [this]
    rfl
  | k + 1, hk => by
    have ih := cnt_VT h p k (by omega)
    rw [sCnt_nat, ← ih]
    have split : ∀ M : List (Int × Int), ((M.filter (fun q => decide (q.1 < ((k + 1 : Nat) : Int) ∧ p q.2))).length) = (M.filter (fun q => decide (q.1 < (k : Int) ∧ p q.2))).length + (M.filter (fun q => decide (q.1 = (k : Int) ∧ p q.2))).length := by
      intro M
      induction M with
      | nil => rfl
      | cons q M ihM =>
        simp only [List.filter_cons]
        by_cases hp : p q.2
        · by_cases h1 : q.1 < (k : Int)
          · have h2 : q.1 < ((k + 1 : Nat) : Int) := by omega
            have h3 : ¬ q.1 = (k : Int) := by omega
            simp only [h1, h2, h3, hp, and_self, decide_true, if_true, false_and, decide_false, List.length_cons, ihM]
            simp
            omega
          · by_cases h3 : q.1 = (k : Int)
            · have h2 : q.1 < ((k + 1 : Nat) : Int) := by omega
              simp only [h1, h2, hp, false_and, decide_false, and_self, decide_true, if_true, List.length_cons, ihM]
              simp [h3]
              omega
            · have h2 : ¬ q.1 < ((k + 1 : Nat) : Int) := by omega
              simp only [h1, h2, h3, false_and, decide_false, Bool.false_eq_true, if_false]
              exact ihM
        · simp only [hp, and_false, decide_false, Bool.false_eq_true, if_false]
          exact ihM
    rw [split L]
    have last : (L.filter (fun q => decide (q.1 = (k : Int) ∧ p q.2))).length = if f k ≠ -1 ∧ p (f k) then 1 else 0 := by
      by_cases c : f k ≠ -1 ∧ p (f k)
      · rw [if_pos c]
        have hm : ((k : Int), f k) ∈ L := (h.2.2 k (f k) (by omega) (by omega)).mpr ⟨rfl, c.1⟩
        have e : L.filter (fun q => decide (q.1 = (k : Int) ∧ p q.2)) = L.filter (fun q => q == ((k : Int), f k)) := by
          apply List.filter_congr
          intro q hq
          have := (h.2.1 q hq).1
          by_cases e : q.1 = (k : Int)
          · have hq' : ((k : Int), q.2) ∈ L := by rw [← e]; exact hq
            have := (h.2.2 k q.2 (by omega) (by omega)).mp hq'
            have eq : q = ((k : Int), f k) := Prod.ext e this.1.symm
            rw [eq]
            simp [c.2]
          · have ne : q ≠ ((k : Int), f k) := fun z => e (by rw [z])
            simp [e, ne]
        rw [e, ← List.count_eq_length_filter, List.Nodup.count (srt_nodup h.1), if_pos hm]
      · rw [if_neg c]
        rw [List.length_eq_zero_iff, List.filter_eq_nil_iff]
        intro q hq
        simp only [decide_eq_true_eq]
        rintro ⟨e1, e2⟩
        have := (h.2.1 q hq)
        have hq' : ((k : Int), q.2) ∈ L := by rw [← e1]; exact hq
        have := (h.2.2 k q.2 (by omega) (by omega)).mp hq'
        exact c ⟨by rw [this.1]; exact this.2, by rw [this.1]; exact e2⟩
    rw [last]
    split <;> simp
