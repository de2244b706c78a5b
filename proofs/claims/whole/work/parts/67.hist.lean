/-! what is remembered -/
def cpz (z : ZZ) (d : Nat) (o : Int) (f : Int → Int) (n : Int) : ZZ := fun b j => if b = d ∧ o ≤ j ∧ j < o + n then f (j - o) else z b j
theorem cpz_0 (z : ZZ) (d : Nat) (o : Int) (f : Int → Int) : cpz z d o f 0 = z := by
  funext b j
  show (if b = d ∧ o ≤ j ∧ j < o + 0 then f (j - o) else z b j) = _
  rw [if_neg (by omega)]
theorem cpz_s {z : ZZ} {d : Nat} {o : Int} {f : Int → Int} {i : Int} (hi : 0 ≤ i) : zup (cpz z d o f i) d (o + i) (f i) = cpz z d o f (i + 1) := by
  funext b j
  show (if b = d ∧ j = o + i then f i else if b = d ∧ o ≤ j ∧ j < o + i then f (j - o) else z b j) = (if b = d ∧ o ≤ j ∧ j < o + (i + 1) then f (j - o) else z b j)
  by_cases h1 : b = d
  · by_cases h2 : j = o + i
    · rw [if_pos ⟨h1, h2⟩, if_pos ⟨h1, by omega, by omega⟩, show j - o = i by omega]
    · rw [if_neg (fun w => h2 w.2)]
      by_cases h3 : o ≤ j ∧ j < o + i
      · rw [if_pos ⟨h1, h3.1, h3.2⟩, if_pos ⟨h1, h3.1, by omega⟩]
      · rw [if_neg (fun w => h3 w.2), if_neg (by omega)]
  · rw [if_neg (fun w => h1 w.1), if_neg (fun w => h1 w.1), if_neg (fun w => h1 w.1)]
theorem cpz_ne {z : ZZ} {d b : Nat} {o n : Int} {f : Int → Int} (h : b ≠ d) : cpz z d o f n b = z b := by
  funext j
  show (if b = d ∧ _ then _ else z b j) = _
  rw [if_neg (fun w => h w.1)]
theorem cpz_at {z : ZZ} {d : Nat} {o n j : Int} {f : Int → Int} : cpz z d o f n d j = if o ≤ j ∧ j < o + n then f (j - o) else z d j := by
  show (if d = d ∧ o ≤ j ∧ j < o + n then f (j - o) else z d j) = _
  by_cases h : o ≤ j ∧ j < o + n
  · rw [if_pos h, if_pos ⟨rfl, h.1, h.2⟩]
  · rw [if_neg h, if_neg (fun w => h w.2)]
theorem m_save_lp {z : ZZ} : zlp (fun q => fX6_save_s7 q.1 q.2) FU (0, z) = some (cpz z 155 0 (z 154) 765) := by
  have key := (lp_forI (step := fun q => fX6_save_s7 q.1 q.2) (fun i (_ : Unit) => (i, cpz z 155 0 (z 154) i)) (fun _ a => a) (fun _ => cpz z 155 0 (z 154) 765) (fun _ _ => True) 0 765 () (by omega) (by omega) trivial (fun i a h1 h2 _ => by
    refine ⟨?_, trivial⟩
    show fX6_save_s7 i (cpz z 155 0 (z 154) i) = _
    have e := cpz_s (z := z) (d := 155) (o := 0) (f := z 154) h1
    rw [Int.zero_add] at e
    unfold fX6_save_s7 zl
    dsimp only
    rw [if_pos h2, if_pos ⟨h1, h2⟩, cpz_ne (b := 154) (by decide), e, if_pos (inR_s (by omega))]) (fun a _ => by
    show fX6_save_s7 765 (cpz z 155 0 (z 154) 765) = _
    unfold fX6_save_s7
    rw [if_neg (by omega)])).1
  rw [cpz_0] at key
  exact key
theorem m_restore_lp {z : ZZ} : zlp (fun q => fX6_restore_s21 q.1 q.2) FU (0, z) = some (cpz z 154 0 (z 155) 765) := by
  have key := (lp_forI (step := fun q => fX6_restore_s21 q.1 q.2) (fun i (_ : Unit) => (i, cpz z 154 0 (z 155) i)) (fun _ a => a) (fun _ => cpz z 154 0 (z 155) 765) (fun _ _ => True) 0 765 () (by omega) (by omega) trivial (fun i a h1 h2 _ => by
    refine ⟨?_, trivial⟩
    show fX6_restore_s21 i (cpz z 154 0 (z 155) i) = _
    have e := cpz_s (z := z) (d := 154) (o := 0) (f := z 155) h1
    rw [Int.zero_add] at e
    unfold fX6_restore_s21 zl
    dsimp only
    rw [if_pos h2, if_pos ⟨h1, h2⟩, cpz_ne (b := 155) (by decide), e, if_pos (inR_s (by omega))]) (fun a _ => by
    show fX6_restore_s21 765 (cpz z 154 0 (z 155) 765) = _
    unfold fX6_restore_s21
    rw [if_neg (by omega)])).1
  rw [cpz_0] at key
  exact key
theorem m_undo_lp {z : ZZ} {u : Int} (hu : z 151 12 = u) (h8 : 0 ≤ u ∧ u ≤ 7) : zlp (fun q => fX6_undo_s39 q.1 q.2) FU (0, z) = some (cpz z 154 0 (fun j => z 156 (765 * u + j)) 765) := by
  have key := (lp_forI (step := fun q => fX6_undo_s39 q.1 q.2) (fun i (_ : Unit) => (i, cpz z 154 0 (fun j => z 156 (765 * u + j)) i)) (fun _ a => a) (fun _ => cpz z 154 0 (fun j => z 156 (765 * u + j)) 765) (fun _ _ => True) 0 765 () (by omega) (by omega) trivial (fun i a h1 h2 _ => by
    refine ⟨?_, trivial⟩
    show fX6_undo_s39 i (cpz z 154 0 (fun j => z 156 (765 * u + j)) i) = _
    have e := cpz_s (z := z) (d := 154) (o := 0) (f := fun j => z 156 (765 * u + j)) h1
    rw [Int.zero_add] at e
    unfold fX6_undo_s39 zl
    dsimp only
    rw [cpz_ne (b := 151) (by decide), hu, if_pos h2, if_pos ⟨by omega, by omega⟩, if_pos ⟨h1, h2⟩, cpz_ne (b := 156) (by decide), e, if_pos (inR_s (by omega))]) (fun a _ => by
    show fX6_undo_s39 765 _ = _
    unfold fX6_undo_s39
    rw [if_neg (by omega)])).1
  rw [cpz_0] at key
  exact key
theorem m_rec_lp {z : ZZ} {u : Int} (hu : z 151 12 = u) (h8 : 0 ≤ u ∧ u ≤ 7) : zlp (fun q => fX6_record_s54 q.1 q.2) FU (0, z) = some (cpz z 156 (765 * u) (z 154) 765) := by
  have key := (lp_forI (step := fun q => fX6_record_s54 q.1 q.2) (fun i (_ : Unit) => (i, cpz z 156 (765 * u) (z 154) i)) (fun _ a => a) (fun _ => cpz z 156 (765 * u) (z 154) 765) (fun _ _ => True) 0 765 () (by omega) (by omega) trivial (fun i a h1 h2 _ => by
    refine ⟨?_, trivial⟩
    show fX6_record_s54 i (cpz z 156 (765 * u) (z 154) i) = _
    have e := cpz_s (z := z) (d := 156) (o := 765 * u) (f := z 154) h1
    unfold fX6_record_s54 zl
    dsimp only
    rw [cpz_ne (b := 151) (by decide), hu, if_pos h2, if_pos ⟨h1, h2⟩, if_pos ⟨by omega, by omega⟩, cpz_ne (b := 154) (by decide), e, if_pos (inR_s (by omega))]) (fun a _ => by
    show fX6_record_s54 765 _ = _
    unfold fX6_record_s54
    rw [if_neg (by omega)])).1
  rw [cpz_0] at key
  exact key
theorem m_shift8_lp {z : ZZ} : zlp (fun q => fX6_record_s13 q.1 q.2) FU (765, z) = some (cpz z 156 0 (fun j => z 156 (j + 765)) 5355) := by
  have key := (lp_forI (step := fun q => fX6_record_s13 q.1 q.2) (fun i (_ : Unit) => (i, cpz z 156 0 (fun j => z 156 (j + 765)) (i - 765))) (fun _ a => a) (fun _ => cpz z 156 0 (fun j => z 156 (j + 765)) 5355) (fun _ _ => True) 765 6120 () (by omega) (by omega) trivial (fun i a h1 h2 _ => by
    refine ⟨?_, trivial⟩
    show fX6_record_s13 i (cpz z 156 0 (fun j => z 156 (j + 765)) (i - 765)) = some (.inl (i + 1, cpz z 156 0 (fun j => z 156 (j + 765)) (i + 1 - 765)))
    have e := cpz_s (z := z) (d := 156) (o := 0) (f := fun j => z 156 (j + 765)) (i := i - 765) (by omega)
    rw [Int.zero_add, show i - 765 + 765 = i by omega, show i - 765 + 1 = i + 1 - 765 by omega] at e
    unfold fX6_record_s13 zl
    dsimp only
    rw [if_pos h2, if_pos ⟨by omega, h2⟩, if_pos ⟨by omega, by omega⟩, cpz_at (j := i), if_neg (show ¬ (0 ≤ i ∧ i < 0 + (i - 765)) by omega), e, if_pos (inR_s (by omega))]) (fun a _ => by
    show fX6_record_s13 6120 _ = _
    unfold fX6_record_s13
    rw [if_neg (by omega)]
    rfl)).1
  rw [show (765 : Int) - 765 = 0 from rfl, cpz_0] at key
  exact key
/-- the model records -/
theorem m_record {z : ZZ} {u : Int} (hu : z 151 12 = u) (h8 : 0 ≤ u ∧ u ≤ 8) : ∃ z', fX6_record z = some z' ∧ z' 151 12 = min (u + 1) 8 ∧ (∀ a, a ≠ 151 → a ≠ 156 → z' a = z a) ∧ (∀ j, j ≠ 12 → z' 151 j = z 151 j) ∧
    (∀ i, 0 ≤ i → i < 765 → z' 156 (765 * (min (u + 1) 8 - 1) + i) = z 154 i) ∧ ∀ j, 1 ≤ j → j < min (u + 1) 8 → ∀ i, 0 ≤ i → i < 765 → z' 156 (765 * (min (u + 1) 8 - 1 - j) + i) = z 156 (765 * (u - 1 - (j - 1)) + i) := by
  by_cases q : u = 8
  · have e1 : zup (cpz z 156 0 (fun j => z 156 (j + 765)) 5355) 151 12 7 151 12 = 7 := by rw [zup_at, if_pos rfl]
    refine ⟨zup (cpz (zup (cpz z 156 0 (fun j => z 156 (j + 765)) 5355) 151 12 7) 156 5355 (z 154) 765) 151 12 8, ?_, ?_, fun a p1 p2 => ?_, fun j p => ?_, fun i p1 p2 => ?_, fun j p1 p2 i p3 p4 => ?_⟩
    · unfold fX6_record fX6_record_b52 zl
      rw [hu, if_pos q, m_shift8_lp]
      simp only [Option.bind_some]
      rw [cpz_ne (b := 151) (by decide), hu, q, if_pos (inR_s (by omega)), show (8 : Int) - 1 = 7 from rfl, m_rec_lp e1 (by omega)]
      simp only [Option.bind_some]
      rw [zup_ne (b := 154) (by decide), cpz_ne (b := 154) (by decide), show (765 : Int) * 7 = 5355 from rfl, cpz_ne (b := 151) (by decide), e1, if_pos (inR_s (by omega))]
      rfl
    · rw [zup_at, if_pos rfl, q]; rfl
    · rw [zup_ne p1, cpz_ne p2, zup_ne p1, cpz_ne p2]
    · rw [zup_at, if_neg p, cpz_ne (by decide), zup_at, if_neg p, cpz_ne (by decide)]
    · rw [zup_ne (by decide), cpz_at, if_pos (by omega)]
      congr 1
      omega
    · rw [zup_ne (by decide), cpz_at, if_neg (by omega), zup_ne (by decide), cpz_at, if_pos (by omega)]
      congr 1
      omega
  · refine ⟨zup (cpz z 156 (765 * u) (z 154) 765) 151 12 (u + 1), ?_, ?_, fun a p1 p2 => ?_, fun j p => ?_, fun i p1 p2 => ?_, fun j p1 p2 i p3 p4 => ?_⟩
    · unfold fX6_record fX6_record_b52 zl
      rw [hu, if_neg q, m_rec_lp hu (by omega)]
      simp only [Option.bind_some]
      rw [cpz_ne (b := 151) (by decide), hu, if_pos (inR_s (by omega))]
    · rw [zup_at, if_pos rfl]; omega
    · rw [zup_ne p1, cpz_ne p2]
    · rw [zup_at, if_neg p, cpz_ne (by decide)]
    · rw [zup_ne (by decide), cpz_at, if_pos (by omega)]
      congr 1
      omega
    · rw [zup_ne (by decide), cpz_at, if_neg (by omega)]
      congr 1
      omega
theorem isH_k : ∀ k, k < 8 → isH (34 + 13 * k) := by
  unfold isH
  decide +kernel
/-- the class remembers -/
theorem c_remember {B : Int} {z : ZZ} {r : Row} (hR : RC z r) (hI : IH B r) (hu : 0 ≤ z 32 1 ∧ z 32 1 ≤ 8) (hl : 0 ≤ z 32 2 ∧ z 32 2 < 8) : ∃ z', fX2_remember z = some z' ∧ z' 32 1 = min (z 32 1 + 1) 8 ∧ z' 32 2 = (z 32 2 + 1) % 8 ∧ z' 32 4 = z 32 4 ∧ RH z' (34 + 13 * ((z 32 2 + 1) % 8).toNat) r ∧
    ∀ a, a ≠ 32 → ¬ (34 + 13 * ((z 32 2 + 1) % 8).toNat ≤ a ∧ a ≤ 34 + 13 * ((z 32 2 + 1) % 8).toNat + 12) → z' a = z a := by
  have hk : ((z 32 2 + 1) % 8).toNat < 8 := by omega
  have hR2 : RH (zup (zup z 32 2 ((z 32 2 + 1) % 8)) 32 1 (min (z 32 1 + 1) 8)) 3 r := RH_fra (RC_iff.mp hR) (fun a p q => by rw [zup_ne (by omega), zup_ne (by omega)])
  obtain ⟨z', e, h1, h2⟩ := c_copy (isH_k _ hk) kH3 (by omega) hI.1 hR2
  have e32 : z' 32 = (zup (zup z 32 2 ((z 32 2 + 1) % 8)) 32 1 (min (z 32 1 + 1) 8)) 32 := h2 32 (by omega)
  refine ⟨z', ?_, ?_, ?_, ?_, h1, fun a p q => ?_⟩
  · unfold fX2_remember fX2_latestHall zl
    rw [if_pos (inR_s (by omega)), if_pos (by omega)]
    have a1 : zup z 32 2 ((z 32 2 + 1) % 8) 32 1 = z 32 1 := by rw [zup_at, if_neg (by decide)]
    have a2 : zup (zup z 32 2 ((z 32 2 + 1) % 8)) 32 1 (min (z 32 1 + 1) 8) 32 2 = (z 32 2 + 1) % 8 := by rw [zup_at, if_neg (by decide), zup_at, if_pos rfl]
    dsimp only
    rw [a1, if_pos (inR_s (by omega)), a2, if_neg (by omega), if_pos (by omega)]
    simp only [Option.bind_some]
    rw [e]
    rfl
  · rw [e32, zup_at, if_pos rfl]
  · rw [e32, zup_at, if_neg (by decide), zup_at, if_pos rfl]
  · rw [e32, zup_at, if_neg (by decide), zup_at, if_neg (by decide)]
  · rw [h2 a q, zup_ne p, zup_ne p]
