set_option maxRecDepth 20000
/-! going through a map -/
def inA (t : T) : List Int := foldT [] (fun l a _ _ r => l ++ a :: r) t.1
theorem inA_nil : inA .nil = [] := rfl
theorem inA_nd (l r : T) (a k v : Int) : inA (.nd l a k v r) = inA l ++ a :: inA r := rfl
def preA : List Fm → List Int
  | [] => []
  | f :: fs => if f.left then preA fs else preA fs ++ inA f.o ++ [f.a]
def postA : List Fm → List Int
  | [] => []
  | f :: fs => if f.left then f.a :: (inA f.o ++ postA fs) else postA fs
theorem inA_pp : ∀ (fs : List Fm) (t : T), inA (plug fs t) = preA fs ++ inA t ++ postA fs
  | [], t => by simp [plug, preA, postA]
  | f :: fs, t => by
    show inA (plug fs (if f.left then _ else _)) = _
    rw [inA_pp fs]
    simp only [preA, postA]
    split <;> simp [inA_nd, inA_nil]
theorem inA_len (t : T) : (inA t).length = tsz t := by
  induction t using T.ind with
  | nil => rfl
  | nd l a k v r ihl ihr => simp [inA_nd, tsz_nd, ihl, ihr]; omega
theorem inA_mem {t : T} {a : Int} : a ∈ inA t → a ∈ addrs t := by
  induction t using T.ind with
  | nil => intro h; cases h
  | nd l b k v r ihl ihr =>
    intro h
    rw [inA_nd] at h
    rw [addrs_nd]
    simp only [List.mem_append, List.mem_cons] at h ⊢
    rcases h with h | h | h
    · exact Or.inr (Or.inl (ihl h))
    · exact Or.inl h
    · exact Or.inr (Or.inr (ihr h))
theorem s_leftmost {D : DD} {loop : Int → Option (Int ⊕ Int)} (hl : ∀ x, loop x = if dO D x 12 then (if dW D x 2 = 0 then some (.inr x) else some (.inl (dW D x 2))) else none) : ∀ (n : Nat) (t : T) (p x : Int), TD D t p x → x ≠ 0 → tsz t ≤ n → ∀ N, n < N → zlp loop N x = some ((inA t).headD 0) := by
  intro n
  induction n with
  | zero =>
    intro t p x h hx ht
    cases t using T.cas with
    | nil => exact absurd h hx
    | nd l a k v r => simp [tsz_nd, tsz_nil] at ht
  | succ n ih =>
    intro t p x h hx ht N hN
    obtain ⟨M, rfl⟩ : ∃ M, N = M + 1 := ⟨N - 1, by omega⟩
    cases t using T.cas with
    | nil => exact absurd h hx
    | nd l a k v r =>
      obtain ⟨rfl, g1, g2, g3, g4⟩ := h
      by_cases c : dW D x 2 = 0
      · have : l = .nil := ((TD_x g3).resolve_right (fun q => by have := q.2.1; omega)).2
        subst this
        exact zlp_r (by rw [hl, if_pos g1.1, if_pos c]; rfl)
      · rw [zlp_l (s' := dW D x 2) (by rw [hl, if_pos g1.1, if_neg c]), ih l x _ g3 c (by simp [tsz_nd, tsz_nil] at ht; omega) M (by omega)]
        cases hl' : inA l with
        | nil =>
          have := inA_len l
          rw [hl'] at this
          have hz : l = .nil := by cases l using T.cas with
            | nil => rfl
            | nd => simp [tsz_nd, tsz_nil] at this
          subst hz
          exact absurd g3 c
        | cons b bs => simp [inA_nd, inA_nil, hl']
theorem s_up {D : DD} {m : Int} : ∀ (fs : List Fm) (t : T) (ch : Int), St D m t fs ch → ch ≠ 0 → ∀ N, fs.length < N → zlp (fun q => fX18_successor_s42 q.1 q.2 D) N (par fs, ch) = some ((postA fs).headD 0)
  | [], t, ch, h, hc, N, hN => by
    obtain ⟨M, rfl⟩ : ∃ M, N = M + 1 := ⟨N - 1, by omega⟩
    refine zlp_r ?_
    show fX18_successor_s42 0 ch D = _
    unfold fX18_successor_s42
    rw [if_pos rfl]
    rfl
  | f :: fs, t, ch, h, hc, N, hN => by
    obtain ⟨M, rfl⟩ : ∃ M, N = M + 1 := ⟨N - 1, by omega⟩
    have fO := h.fO
    have f0 : f.a ≠ 0 := by have := fO.1; omega
    have chO := (h.x4 hc).1
    by_cases c : f.left = true
    · have ho := (PD_l h.2.2.2 c).2
      refine zlp_r ?_
      show fX18_successor_s42 f.a ch D = _
      unfold fX18_successor_s42
      rw [if_neg f0, if_pos fO, if_pos (cmp12 (Or.inr chO)), if_pos (cmp12 (TD_color ho)), if_neg (h.other hc ho)]
      simp [postA, c]
    · have cf : f.left = false := by simpa using c
      have e3 := (PD_r h.2.2.2 cf).1
      rw [zlp_l (s' := (par fs, f.a)) (by
        show fX18_successor_s42 f.a ch D = _
        unfold fX18_successor_s42
        rw [if_neg f0, if_pos fO, if_pos (cmp12 (Or.inr chO)), e3, if_pos (cmp12 (Or.inr chO)), if_pos rfl, h.pp])]
      rw [s_up fs _ f.a h.up f0 M (by simp at hN; omega)]
      simp [postA, cf]
theorem s_succ {D : DD} {m y k v : Int} {l r : T} {fs : List Fm} (h : St D m (.nd l y k v r) fs y) (hsz : tsz r < 90000) (hf : fs.length < 90000) : fX18_successor y D = some ((inA r ++ postA fs).headD 0) := by
  have hy := h.2.2.1.2.1.1
  have y0 : y ≠ 0 := by have := hy.1; omega
  have hr : TD D r y (dW D y 3) := h.2.2.1.2.2.2.2
  unfold fX18_successor
  rw [if_neg y0, if_pos hy]
  by_cases c : dW D y 3 = 0
  · have : r = .nil := ((TD_x hr).resolve_right (fun q => by have := q.2.1; omega)).2
    subst this
    rw [if_pos c, (h.x4 y0).2, s_up fs _ y h y0 FU (by unfold FU; omega)]
    simp [inA_nd, inA_nil]
  · rw [if_neg c, s_leftmost (D := D) (loop := fun q => fX18_successor_s18 q D) (fun x => rfl) (tsz r) r y _ hr c (Nat.le_refl _) FU (by unfold FU; omega)]
    cases hl' : inA r with
    | nil =>
      have := inA_len r
      rw [hl'] at this
      have hz : r = .nil := by cases r using T.cas with
        | nil => rfl
        | nd => simp [tsz_nd, tsz_nil] at this
      subst hz
      exact absurd hr c
    | cons b bs => simp
/-- every place of the order has a node -/
theorem focus {D : DD} {m : Int} : ∀ (n : Nat) (t : T) (fs : List Fm) (x : Int), tsz t ≤ n → St D m t fs x → ∀ i, i < tsz t → ∃ l y k v r fs', St D m (.nd l y k v r) fs' y ∧ plug fs' (.nd l y k v r) = plug fs t ∧ (preA fs' ++ inA l).length = (preA fs).length + i ∧ (preO fs' ++ inord l).length = (preO fs).length + i := by
  intro n
  induction n with
  | zero => intro t fs x ht h i hi; omega
  | succ n ih =>
    intro t fs x ht h i hi
    cases t using T.cas with
    | nil => simp [tsz_nd, tsz_nil] at hi
    | nd l a k v r =>
      have ex : x = a := h.2.2.1.1
      subst ex
      rcases Nat.lt_trichotomy i (tsz l) with c | c | c
      · have h1 : St D m l (⟨true, x, k, v, r⟩ :: fs) (dW D x 2) := St.down (f := ⟨true, x, k, v, r⟩) h rfl
        obtain ⟨l', y, k', v', r', fs', w1, w2, w3, w4⟩ := ih l _ _ (by simp [tsz_nd, tsz_nil] at ht; omega) h1 i c
        exact ⟨l', y, k', v', r', fs', w1, w2, by rw [w3]; simp [preA], by rw [w4]; simp [preO]⟩
      · exact ⟨l, x, k, v, r, fs, h, rfl, by rw [List.length_append, inA_len, c], by rw [List.length_append, tsz_len, c]⟩
      · have h1 : St D m r (⟨false, x, k, v, l⟩ :: fs) (dW D x 3) := St.down (f := ⟨false, x, k, v, l⟩) h rfl
        obtain ⟨l', y, k', v', r', fs', w1, w2, w3, w4⟩ := ih r _ _ (by simp [tsz_nd, tsz_nil] at ht; omega) h1 (i - tsz l - 1) (by simp [tsz_nd, tsz_nil] at hi; omega)
        have ea : (preA ((false, x, k, v, l) :: fs : List Fm)).length = (preA fs).length + tsz l + 1 := by
          show (preA fs ++ inA l ++ [x]).length = _
          simp [inA_len]; omega
        have eo : (preO ((false, x, k, v, l) :: fs : List Fm)).length = (preO fs).length + tsz l + 1 := by
          show (preO fs ++ inord l ++ [(k, v)]).length = _
          simp [tsz_len]; omega
        have ez : tsz (.nd l x k v r) = tsz l + tsz r + 1 := rfl
        refine ⟨l', y, k', v', r', fs', w1, w2, ?_, ?_⟩
        · rw [w3]; show (preA ((false, x, k, v, l) :: fs : List Fm)).length + _ = _; rw [ea]; omega
        · rw [w4]; show (preO ((false, x, k, v, l) :: fs : List Fm)).length + _ = _; rw [eo]; omega
theorem getD_mid {α : Type} (A B : List α) (x d : α) : (A ++ x :: B).getD A.length d = x := by simp [List.getD_eq_getElem?_getD]
theorem getD_mid1 {α : Type} (A B : List α) (x d : α) : (A ++ x :: B).getD (A.length + 1) d = B.headD d := by
  rw [List.getD_eq_getElem?_getD, List.getElem?_append_right (by omega)]
  rw [show A.length + 1 - A.length = 1 by omega]
  cases B <;> simp
/-- the map with its tree -/
def TMt (c : Int → Prop) (D : DD) (m : Int) (t : T) (M : Int) : Prop :=
  (dO D m 11 ∧ c m) ∧ dW D m 2 = 0 ∧ dW D m 4 = (inord t).length ∧ (0 ≤ dW D m 5 ∧ dW D m 5 ≤ M) ∧ (dW D m 6 = 0 ∨ (dO D (dW D m 6) 14 ∧ c (dW D m 6) ∧ dW D (dW D m 6) 0 = m)) ∧ (dW D m 1 = 0 ∨ (dO D (dW D m 1) 16 ∧ c (dW D m 1) ∧ dW D (dW D m 1) 0 = m)) ∧
  TD D t 0 (dW D m 3) ∧ (addrs t).Nodup ∧ ∀ a ∈ addrs t, c a
theorem TMt.to {c : Int → Prop} {D : DD} {m M : Int} {t : T} (h : TMt c D m t M) : TM c D m (inord t) M :=
  ⟨h.1, h.2.1, h.2.2.1, h.2.2.2.1, h.2.2.2.2.1, h.2.2.2.2.2.1, t, h.2.2.2.2.2.2.1, h.2.2.2.2.2.2.2.1, rfl, h.2.2.2.2.2.2.2.2⟩
theorem TM.to {c : Int → Prop} {D : DD} {m M : Int} {L : List (Int × Int)} (h : TM c D m L M) : ∃ t, TMt c D m t M ∧ inord t = L := by
  obtain ⟨h1, h2, h3, h4, h5, h6, t, h7, h8, h9, h10⟩ := h
  exact ⟨t, ⟨h1, h2, by rw [h9]; exact h3, h4, h5, h6, h7, h8, h10⟩, h9⟩
theorem TMt.ev {c P : Int → Prop} {k s : Int} {D D' : DD} {m M : Int} {t : T} (h : TMt c D m t M) (E : Ev P k s D D') (hP : ∀ a, a < dT D → c a → ¬ P a) : TMt c D' m t M := by
  obtain ⟨h1, h2, h3, h4, h5, h6, h7, h8, h10⟩ := h
  have a := fun k => E.at h1.1.2.1 (hP m h1.1.2.1 h1.2) k
  refine ⟨⟨E.dO h1.1, h1.2⟩, by rw [a]; exact h2, by rw [a]; exact h3, by rw [a]; exact h4, ?_, ?_, ?_, h8, h10⟩
  · rw [a]
    exact h5.imp id (fun q => ⟨E.dO q.1, q.2.1, by rw [E.at q.1.2.1 (hP _ q.1.2.1 q.2.1)]; exact q.2.2⟩)
  · rw [a]
    exact h6.imp id (fun q => ⟨E.dO q.1, q.2.1, by rw [E.at q.1.2.1 (hP _ q.1.2.1 q.2.1)]; exact q.2.2⟩)
  · rw [a]
    exact TD_ag (fun e s q => E.dO q) (fun b hb j _ => E.at (TD_addr h7 b hb).2.1 (hP b (TD_addr h7 b hb).2.1 (h10 b hb)) j) h7
theorem TMt.mono {c c' : Int → Prop} {D : DD} {m M M' : Int} {t : T} (h : TMt c D m t M) (hc : ∀ a, a < dT D → c a → c' a) (hM : M ≤ M') : TMt c' D m t M' := by
  obtain ⟨h1, h2, h3, h4, h5, h6, h7, h8, h10⟩ := h
  exact ⟨⟨h1.1, hc _ h1.1.2.1 h1.2⟩, h2, h3, ⟨h4.1, by omega⟩, h5.imp id (fun q => ⟨q.1, hc _ q.1.2.1 q.2.1, q.2.2⟩), h6.imp id (fun q => ⟨q.1, hc _ q.1.2.1 q.2.1, q.2.2⟩), h7, h8, fun a ha => hc a (TD_addr h7 a ha).2.1 (h10 a ha)⟩
theorem TMt.st {c : Int → Prop} {D : DD} {m M : Int} {t : T} (h : TMt c D m t M) : St D m t [] (dW D m 3) := ⟨h.1.1, by simpa [paddrs] using h.2.2.2.2.2.2.2.1, h.2.2.2.2.2.2.1, rfl⟩
theorem s_entrySet {c : Int → Prop} {D : DD} {m M : Int} {t : T} (h : TMt c D m t M) (hT : dT D < 600000) (hS : dS D + 1 ≤ 7200000) :
    ∃ es D', fX18_entrySet m D = some (es, D') ∧ TMt (nx c D D') D' m t M ∧ dO D' es 14 ∧ dW D' es 0 = m ∧ Ev (fun a => a = m) 1 1 D D' := by
  obtain ⟨⟨h1, hc⟩, h2, h3, h4, h5, h6, h7, h8, h10⟩ := h
  unfold fX18_entrySet
  rw [if_pos h1]
  by_cases c6 : dW D m 6 = 0
  · have hb := dO_gt h1
    have mne : m ≠ dT D := by have := h1.2.1; omega
    have n1 : dO (dnew D 14 1) (dT D) 14 := dO_nw hb
    rw [if_pos c6, if_pos ⟨hT, hS⟩, zl_eq]
    unfold fX14_init fX10_init fJxa1e45_init_da8c8
    rw [if_pos n1, zl_eq]
    have g : (151 : Int) ≤ dT D ∧ dT D < dT (dup (dnew D 14 1) (dT D) 0 m) ∧ True := ⟨hb, n1.2.1, trivial⟩
    rw [if_pos g]
    simp only [Option.bind_some]
    rw [zl_eq]
    have E : Ev (fun a => a = m) 1 1 D (dup (dup (dnew D 14 1) (dT D) 0 m) m 6 (dT D)) := (((Ev.dnew (P := fun a => a = m) D).trans (Ev.dup (P := fun a => a = m ∨ a = dT D) _ (fun _ => Or.inr rfl)) (fun a ha q => q.elim id (fun q => by omega))).trans (Ev.dup (P := fun a => a = m) _ (fun _ => rfl)) (fun _ _ h => h)).mono (by omega) (by omega) (fun _ _ h => h)
    have w : ∀ a j, a < dT D → (a ≠ m ∨ j ≠ 6) → dW (dup (dup (dnew D 14 1) (dT D) 0 m) m 6 (dT D)) a j = dW D a j := fun a j ha hj => by
      rw [dup_at, if_neg (fun q => by omega), dup_at, if_neg (by omega), dnew_at, if_neg (by omega)]
    have w6 : dW (dup (dup (dnew D 14 1) (dT D) 0 m) m 6 (dT D)) m 6 = dT D := by rw [dup_at, if_pos ⟨rfl, rfl⟩]
    have w0 : dW (dup (dup (dnew D 14 1) (dT D) 0 m) m 6 (dT D)) (dT D) 0 = m := by rw [dup_at, if_neg (by omega), dup_at, if_pos ⟨rfl, rfl⟩]
    refine ⟨dT D, _, rfl, ⟨⟨E.dO h1, Or.inl hc⟩, ?_, ?_, ?_, Or.inr ?_, ?_, ?_, h8, fun a ha => Or.inl (h10 a ha)⟩, n1, w0, E⟩
    · rw [w m 2 h1.2.1 (Or.inr (by decide))]; exact h2
    · rw [w m 4 h1.2.1 (Or.inr (by decide))]; exact h3
    · rw [w m 5 h1.2.1 (Or.inr (by decide))]; exact h4
    · rw [w6]
      exact ⟨n1, Or.inr ⟨Int.le_refl _, n1.2.1⟩, w0⟩
    · rw [w m 1 h1.2.1 (Or.inr (by decide))]
      exact h6.imp id (fun q => ⟨E.dO q.1, Or.inl q.2.1, by rw [w _ 0 q.1.2.1 (Or.inr (by decide))]; exact q.2.2⟩)
    · rw [w m 3 h1.2.1 (Or.inr (by decide))]
      exact TD_ag (fun e s q => E.dO q) (fun b hb j hj => w b j (TD_addr h7 b hb).2.1 (Or.inl (dO_ne (TD_addr h7 b hb) h1 (by decide)))) h7
  · rw [if_neg c6]
    have q := h5.resolve_left c6
    exact ⟨dW D m 6, D, rfl, ⟨⟨h1, Or.inl hc⟩, h2, h3, h4, h5.imp id (fun q => ⟨q.1, Or.inl q.2.1, q.2.2⟩), h6.imp id (fun q => ⟨q.1, Or.inl q.2.1, q.2.2⟩), h7, h8, fun a ha => Or.inl (h10 a ha)⟩, q.1, q.2.2, (Ev.refl _ D).mono (by omega) (by omega) (fun _ _ h => h)⟩
theorem s_values {c : Int → Prop} {D : DD} {m M : Int} {t : T} (h : TMt c D m t M) (hT : dT D < 600000) (hS : dS D + 1 ≤ 7200000) :
    ∃ es D', fX18_values m D = some (es, D') ∧ TMt (nx c D D') D' m t M ∧ dO D' es 16 ∧ dW D' es 0 = m ∧ Ev (fun a => a = m) 1 1 D D' := by
  obtain ⟨⟨h1, hc⟩, h2, h3, h4, h5, h6, h7, h8, h10⟩ := h
  unfold fX18_values
  rw [if_pos h1]
  by_cases c6 : dW D m 1 = 0
  · have hb := dO_gt h1
    have mne : m ≠ dT D := by have := h1.2.1; omega
    have n1 : dO (dnew D 16 1) (dT D) 16 := dO_nw hb
    rw [if_pos c6, if_pos ⟨hT, hS⟩, zl_eq]
    unfold fX17_init fJxa1e45_init_da8c8
    rw [if_pos n1, zl_eq]
    have g : (151 : Int) ≤ dT D ∧ dT D < dT (dup (dnew D 16 1) (dT D) 0 m) ∧ True := ⟨hb, n1.2.1, trivial⟩
    rw [if_pos g]
    simp only [Option.bind_some]
    rw [zl_eq]
    have E : Ev (fun a => a = m) 1 1 D (dup (dup (dnew D 16 1) (dT D) 0 m) m 1 (dT D)) := (((Ev.dnew (P := fun a => a = m) D).trans (Ev.dup (P := fun a => a = m ∨ a = dT D) _ (fun _ => Or.inr rfl)) (fun a ha q => q.elim id (fun q => by omega))).trans (Ev.dup (P := fun a => a = m) _ (fun _ => rfl)) (fun _ _ h => h)).mono (by omega) (by omega) (fun _ _ h => h)
    have w : ∀ a j, a < dT D → (a ≠ m ∨ j ≠ 1) → dW (dup (dup (dnew D 16 1) (dT D) 0 m) m 1 (dT D)) a j = dW D a j := fun a j ha hj => by
      rw [dup_at, if_neg (fun q => by omega), dup_at, if_neg (by omega), dnew_at, if_neg (by omega)]
    have w6 : dW (dup (dup (dnew D 16 1) (dT D) 0 m) m 1 (dT D)) m 1 = dT D := by rw [dup_at, if_pos ⟨rfl, rfl⟩]
    have w0 : dW (dup (dup (dnew D 16 1) (dT D) 0 m) m 1 (dT D)) (dT D) 0 = m := by rw [dup_at, if_neg (by omega), dup_at, if_pos ⟨rfl, rfl⟩]
    refine ⟨dT D, _, rfl, ⟨⟨E.dO h1, Or.inl hc⟩, ?_, ?_, ?_, ?_, Or.inr ?_, ?_, h8, fun a ha => Or.inl (h10 a ha)⟩, n1, w0, E⟩
    · rw [w m 2 h1.2.1 (Or.inr (by decide))]; exact h2
    · rw [w m 4 h1.2.1 (Or.inr (by decide))]; exact h3
    · rw [w m 5 h1.2.1 (Or.inr (by decide))]; exact h4
    · rw [w m 6 h1.2.1 (Or.inr (by decide))]
      exact h5.imp id (fun q => ⟨E.dO q.1, Or.inl q.2.1, by rw [w _ 0 q.1.2.1 (Or.inr (by decide))]; exact q.2.2⟩)
    · rw [w6]
      exact ⟨n1, Or.inr ⟨Int.le_refl _, n1.2.1⟩, w0⟩
    · rw [w m 3 h1.2.1 (Or.inr (by decide))]
      exact TD_ag (fun e s q => E.dO q) (fun b hb j hj => w b j (TD_addr h7 b hb).2.1 (Or.inl (dO_ne (TD_addr h7 b hb) h1 (by decide)))) h7
  · rw [if_neg c6]
    have q := h6.resolve_left c6
    exact ⟨dW D m 1, D, rfl, ⟨⟨h1, Or.inl hc⟩, h2, h3, h4, h5.imp id (fun q => ⟨q.1, Or.inl q.2.1, q.2.2⟩), h6.imp id (fun q => ⟨q.1, Or.inl q.2.1, q.2.2⟩), h7, h8, fun a ha => Or.inl (h10 a ha)⟩, q.1, q.2.2, (Ev.refl _ D).mono (by omega) (by omega) (fun _ _ h => h)⟩
/-- an iterator over a map: the place is i -/
def TI (s : Nat) (D : DD) (it m : Int) (t : T) (i : Nat) : Prop := dO D it s ∧ dW D it 3 = m ∧ dW D it 2 = dW D m 5 ∧ dW D it 0 = (inA t).getD i 0
theorem s_first {c : Int → Prop} {D : DD} {m M : Int} {t : T} (h : TMt c D m t M) (hsz : tsz t < 90000) : fX18_getFirstEntry m D = some ((inA t).getD 0 0) := by
  have h7 := h.2.2.2.2.2.2.1
  unfold fX18_getFirstEntry
  rw [if_pos h.1.1]
  by_cases c0 : dW D m 3 = 0
  · have : t = .nil := ((TD_x h7).resolve_right (fun q => by have := q.2.1; omega)).2
    subst this
    rw [if_pos c0, c0]
    rfl
  · rw [if_neg c0, s_leftmost (D := D) (loop := fun q => fX18_getFirstEntry_s9 q D) (fun x => rfl) (tsz t) t 0 _ h7 c0 (Nat.le_refl _) FU (by unfold FU; omega)]
    cases inA t <;> rfl
theorem s_x15_13 {D : DD} {it m e : Int} (hO : dO D it 13) (hm : dO D m 11) : ∃ D', fX15_init_13 it m e D = some D' ∧ dW D' it 3 = m ∧ dW D' it 2 = dW D m 5 ∧ dW D' it 0 = e ∧ Sm D D' ∧ Ev (fun a => a = it) 0 0 D D' := by
  have ne : m ≠ it := dO_ne hm hO (by decide)
  unfold fX15_init_13
  rw [if_pos hO, zl_eq, if_pos (show dO (dup D it 3 m) m 11 from hm), zl_eq, zl_eq, zl_eq]
  refine ⟨_, rfl, ?_, ?_, ?_, ⟨rfl, rfl, rfl⟩, ((((Ev.dup (P := fun a => a = it) D (fun _ => rfl)).trans (Ev.dup (P := fun a => a = it) _ (fun _ => rfl)) (fun _ _ h => h)).trans (Ev.dup (P := fun a => a = it) _ (fun _ => rfl)) (fun _ _ h => h)).trans (Ev.dup (P := fun a => a = it) _ (fun _ => rfl)) (fun _ _ h => h)).mono (by omega) (by omega) (fun _ _ h => h)⟩
  · simp [dup_at]
  · simp [dup_at, ne]
  · simp [dup_at]
theorem s_iter14 {c : Int → Prop} {D : DD} {m M es : Int} {t : T} (h : TMt c D m t M) (hes : dO D es 14) (he0 : dW D es 0 = m) (hsz : tsz t < 90000) (hT : dT D < 600000) (hS : dS D + 4 ≤ 7200000) :
    ∃ D', fX14_iterator es D = some (dT D, D') ∧ TI 13 D' (dT D) m t 0 ∧ Ev (fun _ => False) 1 4 D D' := by
  have hb := dO_gt hes
  have E0 : Ev (fun _ => False) 1 4 D (dnew D 13 4) := Ev.dnew D
  have n1 : dO (dnew D 13 4) (dT D) 13 := dO_nw hb
  have h2 : TMt c (dnew D 13 4) m t M := h.ev E0 (fun _ _ _ q => q)
  have e0 : dW (dnew D 13 4) es 0 = m := by rw [E0.at hes.2.1 (fun q => q)]; exact he0
  unfold fX14_iterator
  rw [if_pos ⟨hT, hS⟩, zl_eq, if_pos (E0.dO hes), e0, s_first h2 hsz]
  simp only [Option.bind_some]
  rw [if_pos h2.1.1]
  unfold fX13_init
  obtain ⟨D', w1, w2, w3, w4, w5, w6⟩ := s_x15_13 (e := (inA t).getD 0 0) n1 h2.1.1
  rw [w1]
  simp only [Option.bind_some]
  rw [if_pos ⟨hb, n1.2.1, trivial⟩]
  have mne : m ≠ dT D := by have := h.1.1.2.1; omega
  refine ⟨D', rfl, ⟨w5.dO n1, w2, ?_, w4⟩, (E0.trans w6 (fun a ha q => by omega)).mono (by omega) (by omega) (fun _ _ h => h)⟩
  rw [w3, w6.at h2.1.1.2.1 mne]
theorem s_has13 {c : Int → Prop} {D : DD} {m M it : Int} {t : T} {i : Nat} (h : TMt c D m t M) (hI : TI 13 D it m t i) : fX15_hasNext_13 it D = some (if i < tsz t then 1 else 0) := by
  obtain ⟨a1, a2, a3, a4⟩ := hI
  unfold fX15_hasNext_13
  rw [if_pos a1, a4]
  by_cases q : i < tsz t
  · have hm : (inA t).getD i 0 ∈ inA t := by
      rw [List.getD_eq_getElem?_getD, List.getElem?_eq_getElem (by rw [inA_len]; exact q)]
      exact List.getElem_mem _
    have := (TD_addr h.2.2.2.2.2.2.1 _ (inA_mem hm)).1
    rw [if_neg (by omega), if_pos q]
  · rw [List.getD_eq_getElem?_getD, List.getElem?_eq_none (by rw [inA_len]; omega), if_neg q]
    rfl
theorem s_nextE13 {c : Int → Prop} {D : DD} {m M it : Int} {t : T} {i : Nat} (h : TMt c D m t M) (hI : TI 13 D it m t i) (hi : i < tsz t) (hsz : tsz t < 80000) :
    ∃ y D', fX15_nextEntry_13 it D = some (y, D') ∧ nO D y ((inord t).getD i (0, 0)).1 ((inord t).getD i (0, 0)).2 ∧ y ∈ addrs t ∧ TI 13 D' it m t (i + 1) ∧ Ev (fun a => a = it) 0 0 D D' := by
  obtain ⟨l, y, k, v, r, fs, w1, w2, w3, w4⟩ := focus (tsz t) t [] _ (Nat.le_refl _) h.st i hi
  have w2 : plug fs (.nd l y k v r) = t := w2
  have e1 : inA t = (preA fs ++ inA l) ++ y :: (inA r ++ postA fs) := by rw [← w2, inA_pp]; simp [inA_nd, inA_nil]
  have e2 : inord t = (preO fs ++ inord l) ++ (k, v) :: (inord r ++ postO fs) := by rw [← w2, inord_pp]; simp [inord_nd, inord_nil]
  have w3 : (preA fs ++ inA l).length = i := by rw [w3]; simp [preA]
  have w4 : (preO fs ++ inord l).length = i := by rw [w4]; simp [preO]
  have g1 : (inA t).getD i 0 = y := by rw [e1, ← w3]; exact getD_mid _ _ _ _
  have g2 : (inord t).getD i (0, 0) = (k, v) := by rw [e2, ← w4]; exact getD_mid _ _ _ _
  have g3 : (inA t).getD (i + 1) 0 = (inA r ++ postA fs).headD 0 := by rw [e1, ← w3]; exact getD_mid1 _ _ _ _
  have hsz' : tsz r < 90000 ∧ fs.length < 90000 := by
    have q1 := (plug_perm fs (.nd l y k v r)).length_eq
    rw [w2, tsz_addr, List.length_append, tsz_addr] at q1
    have fl : ∀ fs : List Fm, fs.length ≤ (paddrs fs).length := by
      intro fs
      induction fs with
      | nil => exact Nat.le_refl _
      | cons f fs ih => simp [paddrs]; omega
    have := fl fs
    simp only [tsz_nd, tsz_nil] at q1
    exact ⟨by omega, by omega⟩
  obtain ⟨a1, a2, a3, a4⟩ := hI
  have yO := w1.2.2.1.2.1.1
  have ne : m ≠ it := dO_ne h.1.1 a1 (by decide)
  unfold fX15_nextEntry_13
  rw [if_pos a1, a4, g1, if_neg (by have := yO.1; omega), a2, if_pos h.1.1, if_pos a3.symm, s_succ w1 hsz'.1 hsz'.2]
  simp only [Option.bind_some]
  rw [zl_eq, zl_eq]
  refine ⟨y, dup (dup D it 0 ((inA r ++ postA fs).headD 0)) it 1 y, rfl, by rw [g2]; exact w1.2.2.1.2.1, ?_, ⟨a1, ?_, ?_, ?_⟩, ((Ev.dup (P := fun a => a = it) D (fun _ => rfl)).trans (Ev.dup (P := fun a => a = it) _ (fun _ => rfl)) (fun _ _ h => h)).mono (by omega) (by omega) (fun _ _ h => h)⟩
  · exact inA_mem (by rw [e1]; simp)
  · rw [dup_at, if_neg (by omega), dup_at, if_neg (by omega)]; exact a2
  · rw [dup_at, if_neg (by omega), dup_at, if_neg (by omega), dup_at, if_neg (by omega), dup_at, if_neg (by omega)]; exact a3
  · rw [dup_at, if_neg (by omega), dup_at, if_pos ⟨rfl, rfl⟩, g3]
theorem s_x15_15 {D : DD} {it m e : Int} (hO : dO D it 15) (hm : dO D m 11) : ∃ D', fX15_init_15 it m e D = some D' ∧ dW D' it 3 = m ∧ dW D' it 2 = dW D m 5 ∧ dW D' it 0 = e ∧ Sm D D' ∧ Ev (fun a => a = it) 0 0 D D' := by
  have ne : m ≠ it := dO_ne hm hO (by decide)
  unfold fX15_init_15
  rw [if_pos hO, zl_eq, if_pos (show dO (dup D it 3 m) m 11 from hm), zl_eq, zl_eq, zl_eq]
  refine ⟨_, rfl, ?_, ?_, ?_, ⟨rfl, rfl, rfl⟩, ((((Ev.dup (P := fun a => a = it) D (fun _ => rfl)).trans (Ev.dup (P := fun a => a = it) _ (fun _ => rfl)) (fun _ _ h => h)).trans (Ev.dup (P := fun a => a = it) _ (fun _ => rfl)) (fun _ _ h => h)).trans (Ev.dup (P := fun a => a = it) _ (fun _ => rfl)) (fun _ _ h => h)).mono (by omega) (by omega) (fun _ _ h => h)⟩
  · simp [dup_at]
  · simp [dup_at, ne]
  · simp [dup_at]
theorem s_iter16 {c : Int → Prop} {D : DD} {m M es : Int} {t : T} (h : TMt c D m t M) (hes : dO D es 16) (he0 : dW D es 0 = m) (hsz : tsz t < 90000) (hT : dT D < 600000) (hS : dS D + 4 ≤ 7200000) :
    ∃ D', fX17_iterator es D = some (dT D, D') ∧ TI 15 D' (dT D) m t 0 ∧ Ev (fun _ => False) 1 4 D D' := by
  have hb := dO_gt hes
  have E0 : Ev (fun _ => False) 1 4 D (dnew D 15 4) := Ev.dnew D
  have n1 : dO (dnew D 15 4) (dT D) 15 := dO_nw hb
  have h2 : TMt c (dnew D 15 4) m t M := h.ev E0 (fun _ _ _ q => q)
  have e0 : dW (dnew D 15 4) es 0 = m := by rw [E0.at hes.2.1 (fun q => q)]; exact he0
  unfold fX17_iterator
  rw [if_pos ⟨hT, hS⟩, zl_eq, if_pos (E0.dO hes), e0, s_first h2 hsz]
  simp only [Option.bind_some]
  rw [if_pos h2.1.1]
  unfold fX16_init
  obtain ⟨D', w1, w2, w3, w4, w5, w6⟩ := s_x15_15 (e := (inA t).getD 0 0) n1 h2.1.1
  rw [w1]
  simp only [Option.bind_some]
  rw [if_pos ⟨hb, n1.2.1, trivial⟩]
  have mne : m ≠ dT D := by have := h.1.1.2.1; omega
  refine ⟨D', rfl, ⟨w5.dO n1, w2, ?_, w4⟩, (E0.trans w6 (fun a ha q => by omega)).mono (by omega) (by omega) (fun _ _ h => h)⟩
  rw [w3, w6.at h2.1.1.2.1 mne]
theorem s_has15 {c : Int → Prop} {D : DD} {m M it : Int} {t : T} {i : Nat} (h : TMt c D m t M) (hI : TI 15 D it m t i) : fX15_hasNext_15 it D = some (if i < tsz t then 1 else 0) := by
  obtain ⟨a1, a2, a3, a4⟩ := hI
  unfold fX15_hasNext_15
  rw [if_pos a1, a4]
  by_cases q : i < tsz t
  · have hm : (inA t).getD i 0 ∈ inA t := by
      rw [List.getD_eq_getElem?_getD, List.getElem?_eq_getElem (by rw [inA_len]; exact q)]
      exact List.getElem_mem _
    have := (TD_addr h.2.2.2.2.2.2.1 _ (inA_mem hm)).1
    rw [if_neg (by omega), if_pos q]
  · rw [List.getD_eq_getElem?_getD, List.getElem?_eq_none (by rw [inA_len]; omega), if_neg q]
    rfl
theorem s_nextE15 {c : Int → Prop} {D : DD} {m M it : Int} {t : T} {i : Nat} (h : TMt c D m t M) (hI : TI 15 D it m t i) (hi : i < tsz t) (hsz : tsz t < 80000) :
    ∃ y D', fX15_nextEntry_15 it D = some (y, D') ∧ nO D y ((inord t).getD i (0, 0)).1 ((inord t).getD i (0, 0)).2 ∧ y ∈ addrs t ∧ TI 15 D' it m t (i + 1) ∧ Ev (fun a => a = it) 0 0 D D' := by
  obtain ⟨l, y, k, v, r, fs, w1, w2, w3, w4⟩ := focus (tsz t) t [] _ (Nat.le_refl _) h.st i hi
  have w2 : plug fs (.nd l y k v r) = t := w2
  have e1 : inA t = (preA fs ++ inA l) ++ y :: (inA r ++ postA fs) := by rw [← w2, inA_pp]; simp [inA_nd, inA_nil]
  have e2 : inord t = (preO fs ++ inord l) ++ (k, v) :: (inord r ++ postO fs) := by rw [← w2, inord_pp]; simp [inord_nd, inord_nil]
  have w3 : (preA fs ++ inA l).length = i := by rw [w3]; simp [preA]
  have w4 : (preO fs ++ inord l).length = i := by rw [w4]; simp [preO]
  have g1 : (inA t).getD i 0 = y := by rw [e1, ← w3]; exact getD_mid _ _ _ _
  have g2 : (inord t).getD i (0, 0) = (k, v) := by rw [e2, ← w4]; exact getD_mid _ _ _ _
  have g3 : (inA t).getD (i + 1) 0 = (inA r ++ postA fs).headD 0 := by rw [e1, ← w3]; exact getD_mid1 _ _ _ _
  have hsz' : tsz r < 90000 ∧ fs.length < 90000 := by
    have q1 := (plug_perm fs (.nd l y k v r)).length_eq
    rw [w2, tsz_addr, List.length_append, tsz_addr] at q1
    have fl : ∀ fs : List Fm, fs.length ≤ (paddrs fs).length := by
      intro fs
      induction fs with
      | nil => exact Nat.le_refl _
      | cons f fs ih => simp [paddrs]; omega
    have := fl fs
    simp only [tsz_nd, tsz_nil] at q1
    exact ⟨by omega, by omega⟩
  obtain ⟨a1, a2, a3, a4⟩ := hI
  have yO := w1.2.2.1.2.1.1
  have ne : m ≠ it := dO_ne h.1.1 a1 (by decide)
  unfold fX15_nextEntry_15
  rw [if_pos a1, a4, g1, if_neg (by have := yO.1; omega), a2, if_pos h.1.1, if_pos a3.symm, s_succ w1 hsz'.1 hsz'.2]
  simp only [Option.bind_some]
  rw [zl_eq, zl_eq]
  refine ⟨y, dup (dup D it 0 ((inA r ++ postA fs).headD 0)) it 1 y, rfl, by rw [g2]; exact w1.2.2.1.2.1, ?_, ⟨a1, ?_, ?_, ?_⟩, ((Ev.dup (P := fun a => a = it) D (fun _ => rfl)).trans (Ev.dup (P := fun a => a = it) _ (fun _ => rfl)) (fun _ _ h => h)).mono (by omega) (by omega) (fun _ _ h => h)⟩
  · exact inA_mem (by rw [e1]; simp)
  · rw [dup_at, if_neg (by omega), dup_at, if_neg (by omega)]; exact a2
  · rw [dup_at, if_neg (by omega), dup_at, if_neg (by omega), dup_at, if_neg (by omega), dup_at, if_neg (by omega)]; exact a3
  · rw [dup_at, if_neg (by omega), dup_at, if_pos ⟨rfl, rfl⟩, g3]
theorem s_next13 {c : Int → Prop} {D : DD} {m M it : Int} {t : T} {i : Nat} (h : TMt c D m t M) (hI : TI 13 D it m t i) (hi : i < tsz t) (hsz : tsz t < 80000) :
    ∃ y D', fX13_next_ it D = some (y, D') ∧ nO D y ((inord t).getD i (0, 0)).1 ((inord t).getD i (0, 0)).2 ∧ y ∈ addrs t ∧ TI 13 D' it m t (i + 1) ∧ Ev (fun a => a = it) 0 0 D D' := by
  obtain ⟨y, D', w1, w2, w3, w4, w5⟩ := s_nextE13 h hI hi hsz
  refine ⟨y, D', ?_, w2, w3, w4, w5⟩
  unfold fX13_next_ fX13_next
  rw [w1]
  simp only [Option.bind_some]
  rw [if_pos hI.1]
  simp only [Option.bind_some]
  rw [if_pos hI.1]
theorem s_next16 {c : Int → Prop} {D : DD} {m M it : Int} {t : T} {i : Nat} (h : TMt c D m t M) (hI : TI 15 D it m t i) (hi : i < tsz t) (hsz : tsz t < 80000) (hc : ∀ a, c a → a ≠ it) :
    ∃ D', fX16_next it D = some (1000428 + ((inord t).getD i (0, 0)).2, D') ∧ isBox (1000428 + ((inord t).getD i (0, 0)).2) ∧ TI 15 D' it m t (i + 1) ∧ Ev (fun a => a = it) 0 0 D D' := by
  obtain ⟨y, D', w1, w2, w3, w4, w5⟩ := s_nextE15 h hI hi hsz
  refine ⟨D', ?_, w2.2.2.1, w4, w5⟩
  have yO := w2.1
  unfold fX16_next
  rw [w1]
  simp only [Option.bind_some]
  rw [if_pos hI.1, if_pos (w5.dO yO), w5.at yO.2.1 (hc y (h.2.2.2.2.2.2.2.2 y w3)), w2.2.2.2.2]
