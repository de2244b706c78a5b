set_option maxRecDepth 20000
/-! maps -/
def preO : List Fm → List (Int × Int)
  | [] => []
  | f :: fs => if f.left then preO fs else preO fs ++ inord f.o ++ [(f.k, f.v)]
def postO : List Fm → List (Int × Int)
  | [] => []
  | f :: fs => if f.left then (f.k, f.v) :: (inord f.o ++ postO fs) else postO fs
theorem inord_pp : ∀ (fs : List Fm) (t : T), inord (plug fs t) = preO fs ++ inord t ++ postO fs
  | [], t => by simp [plug, preO, postO]
  | f :: fs, t => by
    show inord (plug fs (if f.left then _ else _)) = _
    rw [inord_pp fs]
    simp only [preO, postO]
    split <;> simp [inord_nd, inord_nil]
def tsz (t : T) : Nat := foldT 0 (fun l _ _ _ r => l + r + 1) t.1
theorem tsz_nil : tsz .nil = 0 := rfl
theorem tsz_nd (l r : T) (a k v : Int) : tsz (.nd l a k v r) = tsz l + tsz r + 1 := rfl
theorem tsz_len (t : T) : (inord t).length = tsz t := by
  induction t using T.ind with
  | nil => rfl
  | nd l a k v r ihl ihr => simp [inord_nd, tsz_nd, ihl, ihr]; omega
theorem tsz_addr (t : T) : (addrs t).length = tsz t := by
  induction t using T.ind with
  | nil => rfl
  | nd l a k v r ihl ihr => simp [addrs_nd, tsz_nd, ihl, ihr]
/-- k with v, in its place -/
def Put (L : List (Int × Int)) (k v : Int) (L' : List (Int × Int)) : Prop :=
  ∃ A B, (∀ q ∈ A, q.1 < k) ∧ (∀ q ∈ B, k < q.1) ∧ L' = A ++ (k, v) :: B ∧ (L = A ++ B ∨ ∃ v0, L = A ++ (k, v0) :: B)
/-- ours, and what was made since -/
def nx (c : Int → Prop) (D D' : DD) : Int → Prop := fun a => c a ∨ (dT D ≤ a ∧ a < dT D')
def TM (c : Int → Prop) (D : DD) (m : Int) (L : List (Int × Int)) (M : Int) : Prop :=
  (dO D m 11 ∧ c m) ∧ dW D m 2 = 0 ∧ dW D m 4 = L.length ∧ (0 ≤ dW D m 5 ∧ dW D m 5 ≤ M) ∧ (dW D m 6 = 0 ∨ (dO D (dW D m 6) 14 ∧ c (dW D m 6) ∧ dW D (dW D m 6) 0 = m)) ∧ (dW D m 1 = 0 ∨ (dO D (dW D m 1) 16 ∧ c (dW D m 1) ∧ dW D (dW D m 1) 0 = m)) ∧
  ∃ t, TD D t 0 (dW D m 3) ∧ (addrs t).Nodup ∧ inord t = L ∧ ∀ a ∈ addrs t, c a
theorem TM.mono {c c' : Int → Prop} {D : DD} {m M M' : Int} {L : List (Int × Int)} (h : TM c D m L M) (hc : ∀ a, a < dT D → c a → c' a) (hM : M ≤ M') : TM c' D m L M' := by
  obtain ⟨h1, h2, h3, h4, h5, h6, t, h7, h8, h9, h10⟩ := h
  refine ⟨⟨h1.1, hc _ h1.1.2.1 h1.2⟩, h2, h3, ⟨h4.1, by omega⟩, h5.imp id (fun q => ⟨q.1, hc _ q.1.2.1 q.2.1, q.2.2⟩), h6.imp id (fun q => ⟨q.1, hc _ q.1.2.1 q.2.1, q.2.2⟩), t, h7, h8, h9, fun a ha => hc a (TD_addr h7 a ha).2.1 (h10 a ha)⟩
theorem TM.ev {c P : Int → Prop} {k s : Int} {D D' : DD} {m M : Int} {L : List (Int × Int)} (h : TM c D m L M) (E : Ev P k s D D') (hP : ∀ a, a < dT D → c a → ¬ P a) : TM c D' m L M := by
  obtain ⟨h1, h2, h3, h4, h5, h6, t, h7, h8, h9, h10⟩ := h
  have a := fun k => E.at h1.1.2.1 (hP m h1.1.2.1 h1.2) k
  refine ⟨⟨E.dO h1.1, h1.2⟩, by rw [a]; exact h2, by rw [a]; exact h3, by rw [a]; exact h4, ?_, ?_, t, ?_, h8, h9, h10⟩
  · rw [a]
    exact h5.imp id (fun q => ⟨E.dO q.1, q.2.1, by rw [E.at q.1.2.1 (hP _ q.1.2.1 q.2.1)]; exact q.2.2⟩)
  · rw [a]
    exact h6.imp id (fun q => ⟨E.dO q.1, q.2.1, by rw [E.at q.1.2.1 (hP _ q.1.2.1 q.2.1)]; exact q.2.2⟩)
  · rw [a]
    exact TD_ag (fun e s q => E.dO q) (fun b hb j _ => E.at (TD_addr h7 b hb).2.1 (hP b (TD_addr h7 b hb).2.1 (h10 b hb)) j) h7
theorem TM.bal {c : Int → Prop} {D : DD} {m M : Int} {L : List (Int × Int)} (h : TM c D m L M) : dO D m 11 := h.1.1
theorem s_tmInit {c : Int → Prop} {D : DD} {m : Int} (hO : dO D m 11) (hc : c m) (h0 : ∀ j, dW D m j = 0) : ∃ D', fX18_init m D = some D' ∧ TM c D' m [] 0 ∧ Ev (fun a => a = m) 0 0 D D' := by
  have g : (151 : Int) ≤ m ∧ m < dT D ∧ True := ⟨hO.1, hO.2.1, trivial⟩
  refine ⟨dup (dup (dup D m 4 0) m 5 0) m 2 0, ?_, ?_, ?_⟩
  · unfold fX18_init fX9_init
    rw [if_pos g]
    simp only [Option.bind_some]
    rw [if_pos g, if_pos hO, zl_eq, zl_eq, zl_eq]
  · have e : ∀ j, dW (dup (dup (dup D m 4 0) m 5 0) m 2 0) m j = 0 := fun j => by
      simp only [dup_at, true_and]
      split
      · rfl
      · split
        · rfl
        · split
          · rfl
          · exact h0 j
    refine ⟨⟨hO, hc⟩, e 2, e 4, ⟨by rw [e]; decide, by rw [e]; decide⟩, Or.inl (e 6), Or.inl (e 1), .nil, e 3, by simp [addrs_nd, addrs_nil], rfl, fun a ha => by cases ha⟩
  · exact (((Ev.dup (P := fun a => a = m) D (fun _ => rfl)).trans (Ev.dup (P := fun a => a = m) _ (fun _ => rfl)) (fun _ _ h => h)).trans (Ev.dup (P := fun a => a = m) _ (fun _ => rfl)) (fun _ _ h => h)).mono (by omega) (by omega) (fun _ _ h => h)
theorem s_size18 {c : Int → Prop} {D : DD} {m M : Int} {L : List (Int × Int)} (h : TM c D m L M) : fX18_size m D = some (L.length : Int) := by
  unfold fX18_size
  rw [if_pos h.1.1, h.2.2.1]
theorem s_compare {x y : Int} {D : DD} (hx : isBox x) (hy : isBox y) : fJ6_compareTo_e47da x y D = some (if x < y then -1 else if x = y then 0 else 1) := by
  unfold fJ6_compareTo_e47da
  rw [if_pos hy]
  unfold fJ6_compareTo_e8194
  rw [if_pos hx, if_pos hy]
  unfold fJ6_compare_7cf53
  by_cases c1 : x < y
  · rw [if_pos (by omega), if_pos c1]
    simp only [Option.bind_some]
    rw [if_pos hx]
  · rw [if_neg (by omega), if_neg c1]
    by_cases c2 : x = y
    · rw [if_pos (by omega), if_pos c2]
      simp only [Option.bind_some]
      rw [if_pos hx]
    · rw [if_neg (by omega), if_neg c2]
      simp only [Option.bind_some]
      rw [if_pos hx]
/-- the new entry -/
theorem s_x12 {D : DD} {e k v p : Int} (hO : dO D e 12) (h0 : ∀ j, dW D e j = 0) : ∃ D', fX12_init e k v p D = some D' ∧ Sm D D' ∧ (∀ a j, a ≠ e → dW D' a j = dW D a j) ∧ dW D' e 0 = k ∧ dW D' e 1 = v ∧ dW D' e 2 = 0 ∧ dW D' e 3 = 0 ∧ dW D' e 4 = p ∧ dW D' e 5 = 1 := by
  have g : (151 : Int) ≤ e ∧ e < dT D ∧ True := ⟨hO.1, hO.2.1, trivial⟩
  unfold fX12_init
  rw [if_pos g, if_pos hO, zl_eq, zl_eq, zl_eq, zl_eq]
  refine ⟨_, rfl, ⟨rfl, rfl, rfl⟩, fun a j ha => by simp [dup_at, ha], ?_, ?_, ?_, ?_, ?_, ?_⟩ <;> simp [dup_at, h0]
theorem Sm.ev {P : Int → Prop} {D D' : DD} (h : Sm D D') (hw : ∀ a k, a < dT D → ¬ P a → dW D' a k = dW D a k) : Ev P 0 0 D D' :=
  ⟨by rw [h.1]; omega, by rw [h.1]; omega, by rw [h.2.2]; omega, by rw [h.2.2]; omega, fun a _ => by rw [h.2.1], hw⟩
theorem s_addB {D : DD} {m : Int} {t : T} {fs : List Fm} {e : Int} (h : St D m t fs e) (he : e ≠ 0) (hf : fs.length < 99990) (h4 : 0 ≤ dW D m 4 ∧ dW D m 4 < 1000000) (h5 : 0 ≤ dW D m 5 ∧ dW D m 5 < 1000000) :
    ∃ D', fX18_addEntry_b32 m e D = some D' ∧ Sm D D' ∧ (∃ t', TD D' t' 0 (dW D' m 3) ∧ inord t' = inord (plug fs t) ∧ (addrs t').Perm (addrs t ++ paddrs fs)) ∧ dW D' m 4 = dW D m 4 + 1 ∧ dW D' m 5 = dW D m 5 + 1 ∧ (∀ j, j ≠ 3 → j ≠ 4 → j ≠ 5 → dW D' m j = dW D m j) ∧ (∀ a j, a ≠ m → a ∉ addrs t ++ paddrs fs → dW D' a j = dW D a j) := by
  obtain ⟨D1, q1, s1, ⟨t', w1, w2, w3⟩, w4⟩ := s_fix h he hf
  have wm : ∀ j, j ≠ 3 → dW D1 m j = dW D m j := fun j hj => w4 m j (Or.inr ⟨rfl, hj⟩)
  unfold fX18_addEntry_b32
  rw [q1]
  simp only [Option.bind_some]
  rw [if_pos h.1, wm 4 (by decide), if_pos (by constructor <;> omega), zl_eq]
  have e5 : dW (dup D1 m 4 (dW D m 4 + 1)) m 5 = dW D m 5 := by rw [dup_at, if_neg (by omega), wm 5 (by decide)]
  rw [e5, if_pos (by constructor <;> omega), zl_eq]
  have m3 : ∀ a j, (a ≠ m ∨ (j ≠ 4 ∧ j ≠ 5)) → dW (dup (dup D1 m 4 (dW D m 4 + 1)) m 5 (dW D m 5 + 1)) a j = dW D1 a j := fun a j hj => by
    rw [dup_at, if_neg (fun q => by omega), dup_at, if_neg (fun q => by omega)]
  refine ⟨_, rfl, s1, ⟨t', ?_, w2, w3⟩, ?_, ?_, fun j j3 j4 j5 => ?_, fun a j ha hA => ?_⟩
  · rw [m3 m 3 (Or.inr ⟨by decide, by decide⟩)]
    exact TD_ag (D := D1) (D' := dup (dup D1 m 4 (dW D m 4 + 1)) m 5 (dW D m 5 + 1)) (fun _ _ h => h) (fun a ha j _ => m3 a j (Or.inl (dO_ne (TD_addr w1 a ha) (s1.dO h.1) (by decide)))) w1
  · rw [dup_at, if_neg (by omega), dup_at, if_pos ⟨rfl, rfl⟩]
  · rw [dup_at, if_pos ⟨rfl, rfl⟩]
  · rw [m3 m j (Or.inr ⟨j4, j5⟩), wm j j3]
  · rw [m3 a j (Or.inl ha)]
    exact w4 a j (Or.inl ⟨ha, hA⟩)
theorem St.empty {D : DD} {m : Int} {f : Fm} {fs : List Fm} {x : Int} (h : St D m .nil (f :: fs) x) : dW D f.a (if f.left then 2 else 3) = 0 := by
  have h0 : x = 0 := h.2.2.1
  have := h.2.2.2.2.2.1
  split at this
  · rw [if_pos (by assumption), this.1, h0]
  · rw [if_neg (by assumption), this.1, h0]
theorem Ev.dS_le {P : Int → Prop} {c s : Int} {D D' : DD} (h : Ev P c s D D') : dS D ≤ dS D' := h.2.2.1
/-- a new entry below f -/
theorem St.hang {D D' : DD} {m : Int} {f : Fm} {fs : List Fm} {x e k v : Int} (h : St D m .nil (f :: fs) x) (hs : ∀ a s, dO D a s → dO D' a s) (he : dT D ≤ e) (hn : nO D' e k v) (h2 : dW D' e 2 = 0) (h3 : dW D' e 3 = 0) (h4 : dW D' e 4 = f.a)
    (hf : dW D' f.a (if f.left then 2 else 3) = e) (hw : ∀ a j, a < dT D → (a = f.a ∧ j = if f.left then 2 else 3) ∨ dW D' a j = dW D a j) : St D' m (.nd .nil e k v .nil) (f :: fs) e := by
  obtain ⟨g1, g2, g3, g4⟩ := h
  have hsub : ∀ a ∈ paddrs (f :: fs), dO D a 12 := by
    have : ∀ (fs : List Fm) (y : Int), PD D m fs y → ∀ x, x ∈ paddrs fs → dO D x 12 := by
      intro fs
      induction fs with
      | nil => intro y _ x hx; cases hx
      | cons f fs ih =>
        intro y h x hx
        obtain ⟨g1, g2, g3, g4⟩ := h
        simp only [paddrs, List.mem_cons, List.mem_append] at hx
        rcases hx with rfl | hx | hx
        · exact g1.1
        · by_cases c : f.left = true
          · rw [if_pos c] at g3; exact TD_addr g3.2 x hx
          · rw [if_neg c] at g3; exact TD_addr g3.2 x hx
        · exact ih _ g4 x hx
    exact this _ x g4
  have hm : m ≠ f.a := dO_ne g1 (hsub f.a (by simp [paddrs])) (by decide)
  refine ⟨hs _ _ g1, ?_, ⟨rfl, hn, h4, h2, h3⟩, ?_⟩
  · show (e :: paddrs (f :: fs)).Nodup
    rw [List.nodup_cons]
    refine ⟨fun q => ?_, g2⟩
    have := (hsub e q).2.1
    omega
  · refine PD_agx hs (by simpa [addrs_nd, addrs_nil] using g2) (fun a ha j _ => ?_) (fun _ => ?_) (fun q => by cases q) (fun f' gs q => ?_) g4
    · rcases hw a j (hsub a ha).2.1 with ⟨q1, q2⟩ | q
      · exact Or.inl ⟨q1, f, fs, rfl, q2⟩
      · exact Or.inr q
    · exact (hw m 3 g1.2.1).resolve_left (fun q => hm q.1)
    · cases q
      exact hf
theorem s_addEntry {D : DD} {m k v : Int} {f : Fm} {fs : List Fm} {x : Int} (h : St D m .nil (f :: fs) x) (hk : isBox (1000428 + k)) (hv : isBox (1000428 + v)) (hf : (f :: fs).length < 99990) (h4 : 0 ≤ dW D m 4 ∧ dW D m 4 < 1000000) (h5 : 0 ≤ dW D m 5 ∧ dW D m 5 < 1000000) (hT : dT D < 600000) (hS : dS D + 6 ≤ 7200000) :
    ∃ D', fX18_addEntry m (1000428 + k) (1000428 + v) f.a (if f.left then 1 else 0) D = some D' ∧ (∃ t', TD D' t' 0 (dW D' m 3) ∧ inord t' = preO (f :: fs) ++ (k, v) :: postO (f :: fs) ∧ (addrs t').Perm (dT D :: paddrs (f :: fs))) ∧ dW D' m 4 = dW D m 4 + 1 ∧ dW D' m 5 = dW D m 5 + 1 ∧ (∀ j, j ≠ 3 → j ≠ 4 → j ≠ 5 → dW D' m j = dW D m j) ∧ Ev (fun a => a = m ∨ a ∈ paddrs (f :: fs)) 1 6 D D' := by
  have hb := dO_gt h.1
  have nO2 : dO (dnew D 12 6) (dT D) 12 := dO_nw hb
  obtain ⟨D3, q1, q2, q3, x0, x1, x2, x3, x4, x5⟩ := s_x12 (D := dnew D 12 6) (e := dT D) (k := 1000428 + k) (v := 1000428 + v) (p := f.a) nO2 (fun j => by rw [dnew_at, if_pos rfl])
  have fO : dO D f.a 12 := h.fO
  have fne : f.a ≠ dT D := by have := fO.2.1; omega
  have mne : m ≠ dT D := by have := h.1.2.1; omega
  have mf : m ≠ f.a := dO_ne h.1 fO (by decide)
  have ds3 : ∀ a s, dO D a s → dO D3 a s := fun a s hO => q2.dO ((Ev.dnew (P := fun _ => False) D).dO hO)
  have w3 : ∀ a j, a < dT D → dW D3 a j = dW D a j := fun a j ha => by rw [q3 a j (by omega), dnew_at, if_neg (by omega)]
  have sl : dS D3 = dS D + 6 := q2.2.2
  -- with the parent's link
  have key : ∀ s : Int, s = (if f.left then 2 else 3) → ∃ D', fX18_addEntry_b32 m (dT D) (dup D3 f.a s (dT D)) = some D' ∧ (∃ t', TD D' t' 0 (dW D' m 3) ∧ inord t' = preO (f :: fs) ++ (k, v) :: postO (f :: fs) ∧ (addrs t').Perm (dT D :: paddrs (f :: fs))) ∧ dW D' m 4 = dW D m 4 + 1 ∧ dW D' m 5 = dW D m 5 + 1 ∧ (∀ j, j ≠ 3 → j ≠ 4 → j ≠ 5 → dW D' m j = dW D m j) ∧ Ev (fun a => a = m ∨ a ∈ paddrs (f :: fs)) 1 6 D D' := by
    intro s hs
    have wm : ∀ j, dW (dup D3 f.a s (dT D)) m j = dW D m j := fun j => by rw [dup_at, if_neg (fun q => mf q.1), w3 m j h.1.2.1]
    have we : ∀ j, dW (dup D3 f.a s (dT D)) (dT D) j = dW D3 (dT D) j := fun j => by rw [dup_at, if_neg (fun q => fne q.1.symm)]
    have hst : St (dup D3 f.a s (dT D)) m (.nd .nil (dT D) k v .nil) (f :: fs) (dT D) := by
      refine h.hang (fun a s hO => ds3 a s hO) (Int.le_refl _) ⟨q2.dO nO2, hk, hv, by rw [we, x0], by rw [we, x1]⟩ (by rw [we, x2]) (by rw [we, x3]) (by rw [we, x4]) ?_ (fun a j ha => ?_)
      · rw [← hs, dup_at, if_pos ⟨rfl, rfl⟩]
      · by_cases c : a = f.a ∧ j = s
        · exact Or.inl ⟨c.1, by rw [c.2, hs]⟩
        · exact Or.inr (by rw [dup_at, if_neg c, w3 a j ha])
    obtain ⟨D', r1, r2, ⟨t', r3, r4, r5⟩, r6, r7, r8, r9⟩ := s_addB hst (by omega) hf (by rw [wm]; exact h4) (by rw [wm]; exact h5)
    have sS : dS D' = dS D + 6 := r2.2.2.trans sl
    refine ⟨D', r1, ⟨t', r3, ?_, r5⟩, by rw [r6, wm], by rw [r7, wm], fun j a b c => by rw [r8 j a b c, wm], ?_⟩
    · rw [r4, inord_pp]; simp [inord_nd, inord_nil]
    · have hT' : dT D' = dT D + 1 := by rw [r2.1]; show dT D3 = _; rw [q2.1]; rfl
      refine ⟨by omega, by omega, by omega, by omega, fun a ha => ?_, fun a j ha hp => ?_⟩
      · rw [r2.2.1]
        show dH D3 a = _
        rw [q2.2.1]
        show (if a = dT D then _ else dH D a) = _
        rw [if_neg (by omega)]
      · rw [r9 a j (fun q => hp (Or.inl q)) (fun q => by
          rw [List.mem_append] at q
          rcases q with q | q
          · simp [addrs_nd, addrs_nil] at q; omega
          · exact hp (Or.inr q)), dup_at, if_neg (fun q => hp (Or.inr (by rw [q.1]; simp [paddrs]))), w3 a j ha]
  unfold fX18_addEntry
  rw [if_pos ⟨hT, hS⟩, zl_eq, q1]
  simp only [Option.bind_some]
  by_cases c : f.left = true
  · rw [if_pos c, if_neg (by decide), if_pos (ds3 _ _ fO), zl_eq]
    exact key 2 (by rw [if_pos c])
  · rw [if_neg c, if_pos rfl, if_pos (ds3 _ _ fO), zl_eq]
    exact key 3 (by rw [if_neg c])
abbrev srt (L : List (Int × Int)) : Prop := L.Pairwise (fun a b => a.1 < b.1)
theorem srt_mid {P Q : List (Int × Int)} {q : Int × Int} (h : srt (P ++ q :: Q)) : (∀ a ∈ P, a.1 < q.1) ∧ ∀ a ∈ Q, q.1 < a.1 := by
  rw [srt, List.pairwise_append] at h
  obtain ⟨-, h2, h3⟩ := h
  rw [List.pairwise_cons] at h2
  exact ⟨fun a ha => h3 a ha q List.mem_cons_self, h2.1⟩
theorem s_find {D : DD} {m k v : Int} {I : List (Int × Int)} {A : List Int} (hk : isBox (1000428 + k)) (hv : isBox (1000428 + v)) (hI : srt I) (h4 : 0 ≤ dW D m 4 ∧ dW D m 4 < 1000000) (h5 : 0 ≤ dW D m 5 ∧ dW D m 5 < 1000000) (hT : dT D < 600000) (hS : dS D + 6 ≤ 7200000) (hA : A.length < 99980) :
    ∀ (n : Nat) (t : T) (fs : List Fm) (x : Int), St D m t fs x → x ≠ 0 → tsz t ≤ n → inord (plug fs t) = I → (addrs t ++ paddrs fs).Perm A → (∀ q ∈ preO fs, q.1 < k) → (∀ q ∈ postO fs, k < q.1) → ∀ N, n < N →
    (∃ y v0 l r fs', zlp (fun q => fX18_put__s123 m (1000428 + k) (1000428 + v) 1 (1000428 + k) q D) N x = some (.inl y) ∧ St D m (.nd l y k v0 r) fs' y ∧ inord (plug fs' (.nd l y k v0 r)) = I ∧ (addrs (.nd l y k v0 r) ++ paddrs fs').Perm A ∧ (∀ q ∈ preO fs', q.1 < k) ∧ (∀ q ∈ postO fs', k < q.1)) ∨
    ∃ D', zlp (fun q => fX18_put__s123 m (1000428 + k) (1000428 + v) 1 (1000428 + k) q D) N x = some (.inr (0, D')) ∧ (∃ t', TD D' t' 0 (dW D' m 3) ∧ Put I k v (inord t') ∧ (inord t').length = I.length + 1 ∧ (addrs t').Perm (dT D :: A)) ∧ dW D' m 4 = dW D m 4 + 1 ∧ dW D' m 5 = dW D m 5 + 1 ∧ (∀ j, j ≠ 3 → j ≠ 4 → j ≠ 5 → dW D' m j = dW D m j) ∧ Ev (fun a => a = m ∨ a ∈ A) 1 6 D D' := by
  intro n
  induction n with
  | zero =>
    intro t fs x h hx ht
    cases t using T.cas with
    | nil => exact absurd h.2.2.1 hx
    | nd l a k' v' r => simp [tsz_nd, tsz_nil] at ht
  | succ n ih =>
    intro t fs x h hx ht hin hpm hpre hpost N hN
    cases t using T.cas with
    | nil => exact absurd h.2.2.1 hx
    | nd l a k' v' r =>
      have ex : x = a := h.2.2.1.1
      subst ex
      have hnO := h.2.2.1.2.1
      obtain ⟨M, rfl⟩ : ∃ M, N = M + 1 := ⟨N - 1, by omega⟩
      rw [inord_pp] at hin
      have hmid : srt ((preO fs ++ inord l) ++ (k', v') :: (inord r ++ postO fs)) := by
        rw [← hin] at hI
        simpa [inord_nd, inord_nil, List.append_assoc] using hI
      obtain ⟨hlo, hhi⟩ := srt_mid hmid
      have hlen : (paddrs fs).length < 99980 := by
        have := hpm.length_eq
        rw [List.length_append] at this
        omega
      have fl : ∀ fs : List Fm, fs.length ≤ (paddrs fs).length := by
        intro fs
        induction fs with
        | nil => exact Nat.le_refl _
        | cons f fs ih => simp [paddrs]; omega
      -- one side
      have side : ∀ (left : Bool) (t' o : T) (cmp : Int), fmT ⟨left, x, k', v', o⟩ t' = .nd l x k' v' r → tsz t' ≤ n → (if left then cmp < 0 else ¬ cmp < 0) → (∀ q ∈ preO (⟨left, x, k', v', o⟩ :: fs), q.1 < k) → (∀ q ∈ postO (⟨left, x, k', v', o⟩ :: fs), k < q.1) →
          fX18_put__s123 m (1000428 + k) (1000428 + v) 1 (1000428 + k) x D = fX18_put__b196 m (1000428 + k) (1000428 + v) 1 (dW D x (if left then 2 else 3)) cmp x (1000428 + k) D →
          (∃ y v0 l r fs', zlp (fun q => fX18_put__s123 m (1000428 + k) (1000428 + v) 1 (1000428 + k) q D) (M + 1) x = some (.inl y) ∧ St D m (.nd l y k v0 r) fs' y ∧ inord (plug fs' (.nd l y k v0 r)) = I ∧ (addrs (.nd l y k v0 r) ++ paddrs fs').Perm A ∧ (∀ q ∈ preO fs', q.1 < k) ∧ (∀ q ∈ postO fs', k < q.1)) ∨
          ∃ D', zlp (fun q => fX18_put__s123 m (1000428 + k) (1000428 + v) 1 (1000428 + k) q D) (M + 1) x = some (.inr (0, D')) ∧ (∃ t', TD D' t' 0 (dW D' m 3) ∧ Put I k v (inord t') ∧ (inord t').length = I.length + 1 ∧ (addrs t').Perm (dT D :: A)) ∧ dW D' m 4 = dW D m 4 + 1 ∧ dW D' m 5 = dW D m 5 + 1 ∧ (∀ j, j ≠ 3 → j ≠ 4 → j ≠ 5 → dW D' m j = dW D m j) ∧ Ev (fun a => a = m ∨ a ∈ A) 1 6 D D' := by
        intro left t' o cmp hfm hsz hcmp hp1 hp2 hstep
        have h0 : St D m (fmT ⟨left, x, k', v', o⟩ t') fs x := by rw [hfm]; exact h
        have h1 : St D m t' (⟨left, x, k', v', o⟩ :: fs) (dW D x (if left then 2 else 3)) := St.down (f := ⟨left, x, k', v', o⟩) h0 rfl
        have hpm' : (addrs t' ++ paddrs (⟨left, x, k', v', o⟩ :: fs)).Perm A := ((fm_perm ⟨left, x, k', v', o⟩ t' fs).symm).trans (by rw [hfm]; exact hpm)
        have hin' : inord (plug (⟨left, x, k', v', o⟩ :: fs) t') = I := by
          show inord (plug fs (fmT ⟨left, x, k', v', o⟩ t')) = I
          rw [hfm, inord_pp]
          exact hin
        generalize hy : dW D x (if left then 2 else 3) = y at h1 hstep
        by_cases hy0 : y = 0
        · right
          have hnil : t' = .nil := by
            rcases TD_x h1.2.2.1 with q | q
            · exact q.2
            · have := q.2.1; omega
          subst hnil
          obtain ⟨D', w1, ⟨t9, w2, w3, w4⟩, w5, w6, w7, w8⟩ := s_addEntry (k := k) (v := v) h1 hk hv (by have := fl fs; simp; omega) h4 h5 hT hS
          refine ⟨D', zlp_r ?_, ⟨t9, w2, ?_, ?_, w4.trans ?_⟩, w5, w6, w7, w8.mono (Int.le_refl _) (Int.le_refl _) (fun a _ q => q.imp id (fun q => hpm'.mem_iff.mp (by simpa [addrs_nd, addrs_nil] using q)))⟩
          · show fX18_put__s123 m (1000428 + k) (1000428 + v) 1 (1000428 + k) x D = _
            rw [hstep]
            unfold fX18_put__b196
            rw [if_pos hy0]
            by_cases cl : left = true
            · subst cl
              rw [if_pos rfl] at hcmp
              have w1 : fX18_addEntry m (1000428 + k) (1000428 + v) x 1 D = some D' := w1
              rw [if_pos hcmp, w1]
              simp only [Option.bind_some]
              rw [if_pos h.1]
            · have cl : left = false := by simpa using cl
              subst cl
              rw [if_neg (by decide)] at hcmp
              have w1 : fX18_addEntry m (1000428 + k) (1000428 + v) x 0 D = some D' := w1
              rw [if_neg hcmp, w1]
              simp only [Option.bind_some]
              rw [if_pos h.1]
          · rw [w3]
            refine ⟨_, _, hp1, hp2, rfl, Or.inl ?_⟩
            rw [← hin', inord_pp]
            simp [inord_nd, inord_nil]
          · rw [w3, ← hin', inord_pp]
            simp [inord_nd, inord_nil]
            omega
          · exact List.Perm.cons _ (by simpa [addrs_nd, addrs_nil] using hpm')
        · have := ih t' (⟨left, x, k', v', o⟩ :: fs) y h1 hy0 hsz hin' hpm' hp1 hp2 M (by omega)
          rw [zlp_l (show (fun q => fX18_put__s123 m (1000428 + k) (1000428 + v) 1 (1000428 + k) q D) x = some (.inl y) from by
            show fX18_put__s123 m (1000428 + k) (1000428 + v) 1 (1000428 + k) x D = _
            rw [hstep]
            unfold fX18_put__b196
            rw [if_neg hy0])]
          exact this
      have hsl : tsz l ≤ n := by simp [tsz_nd, tsz_nil] at ht; omega
      have hsr : tsz r ≤ n := by simp [tsz_nd, tsz_nil] at ht; omega
      rcases Int.lt_trichotomy k k' with c | c | c
      · refine side true l r (-1) rfl hsl (by rw [if_pos rfl]; decide) ?_ ?_ ?_
        · simpa [preO] using hpre
        · intro q hq
          simp only [postO, if_true, List.mem_cons] at hq
          rcases hq with rfl | hq
          · exact c
          · have := hhi q hq; omega
        · unfold fX18_put__s123
          rw [if_pos hnO.1, hnO.2.2.2.1, s_compare hk hnO.2.1, if_pos (by omega)]
          simp only [Option.bind_some]
          rw [if_pos hk, if_pos (by decide)]
          rfl
      · subst c
        left
        refine ⟨x, v', l, r, fs, zlp_r ?_, h, by rw [inord_pp]; exact hin, hpm, hpre, hpost⟩
        show fX18_put__s123 m (1000428 + k) (1000428 + v) 1 (1000428 + k) x D = _
        unfold fX18_put__s123
        rw [if_pos hnO.1, hnO.2.2.2.1, s_compare hk hnO.2.1, if_neg (by omega), if_pos rfl]
        simp only [Option.bind_some]
        rw [if_pos hk, if_neg (by decide), if_neg (by decide)]
      · refine side false r l 1 rfl hsr (by rw [if_neg (by decide)]; decide) ?_ ?_ ?_
        · intro q hq
          have hq : q ∈ preO fs ++ inord l ++ [(k', v')] := hq
          simp only [List.mem_append, List.mem_singleton] at hq
          rcases hq with (hq | hq) | rfl
          · exact hpre q hq
          · have := hlo q (List.mem_append_right _ hq); omega
          · exact c
        · intro q hq
          have hq : q ∈ postO fs := hq
          exact hpost q hq
        · unfold fX18_put__s123
          rw [if_pos hnO.1, hnO.2.2.2.1, s_compare hk hnO.2.1, if_neg (by omega), if_neg (by omega)]
          simp only [Option.bind_some]
          rw [if_pos hk, if_neg (by decide), if_pos (by decide)]
          rfl
theorem nx_c {c : Int → Prop} {D D' : DD} {a : Int} (h : c a) : nx c D D' a := Or.inl h
theorem s_reqNN {x : Int} {D : DD} (h : x ≠ 0) : fJ15_requireNonNull_262c5 x D = some x := by
  unfold fJ15_requireNonNull_262c5
  rw [if_neg h]
theorem s_emptyAdd {D : DD} {m k v : Int} (hm : dO D m 11) (h2 : dW D m 2 = 0) (hk : isBox (1000428 + k)) (hv : isBox (1000428 + v)) (h5 : 0 ≤ dW D m 5 ∧ dW D m 5 < 1000000) (hT : dT D < 600000) (hS : dS D + 6 ≤ 7200000) :
    ∃ D', fX18_addEntryToEmptyMap m (1000428 + k) (1000428 + v) D = some D' ∧ TD D' (.nd .nil (dT D) k v .nil) 0 (dW D' m 3) ∧ dW D' m 4 = 1 ∧ dW D' m 5 = dW D m 5 + 1 ∧ (∀ j, j ≠ 3 → j ≠ 4 → j ≠ 5 → dW D' m j = dW D m j) ∧ Ev (fun a => a = m) 1 6 D D' := by
  have hb := dO_gt hm
  have nO2 : dO (dnew D 12 6) (dT D) 12 := dO_nw hb
  have mne : m ≠ dT D := by have := hm.2.1; omega
  obtain ⟨D3, q1, q2, q3, x0, x1, x2, x3, x4, x5⟩ := s_x12 (D := dnew D 12 6) (e := dT D) (k := 1000428 + k) (v := 1000428 + v) (p := 0) nO2 (fun j => by rw [dnew_at, if_pos rfl])
  have w3 : ∀ j, dW D3 m j = dW D m j := fun j => by rw [q3 m j mne, dnew_at, if_neg mne]
  have hc : fX18_compare m (1000428 + k) (1000428 + k) D = some 0 := by
    unfold fX18_compare
    rw [if_pos hm, if_pos h2, if_pos hk, s_compare hk hk, if_neg (by omega), if_pos rfl]
    rfl
  unfold fX18_addEntryToEmptyMap
  rw [hc]
  simp only [Option.bind_some]
  rw [if_pos hm, if_pos ⟨hT, hS⟩, zl_eq, q1]
  simp only [Option.bind_some]
  rw [zl_eq, zl_eq]
  have e5 : dW (dup (dup D3 m 3 (dT D)) m 4 1) m 5 = dW D m 5 := by rw [dup_at, if_neg (by omega), dup_at, if_neg (by omega), w3]
  rw [e5, if_pos (by constructor <;> omega), zl_eq]
  have we : ∀ j, dW (dup (dup (dup D3 m 3 (dT D)) m 4 1) m 5 (dW D m 5 + 1)) (dT D) j = dW D3 (dT D) j := fun j => by simp [dup_at, mne.symm]
  refine ⟨_, rfl, ⟨?_, ⟨q2.dO nO2, hk, hv, by rw [we, x0], by rw [we, x1]⟩, by rw [we, x4], by rw [we, x2]; rfl, by rw [we, x3]; rfl⟩, ?_, ?_, fun j a b c => ?_, ?_⟩
  · simp [dup_at]
  · simp [dup_at]
  · simp [dup_at]
  · simp [dup_at, a, b, c, w3]
  · refine ((Ev.dnew (P := fun a => a = m) D).trans (q2.ev (P := fun a => a = m ∨ a = dT D) (fun a j _ hp => q3 a j (fun q => hp (Or.inr q)))) (fun a ha q => q.elim id (fun q => by omega)) |>.trans ((((Ev.dup (P := fun a => a = m) _ (fun _ => rfl)).trans (Ev.dup (P := fun a => a = m) _ (fun _ => rfl)) (fun _ _ h => h)).trans (Ev.dup (P := fun a => a = m) _ (fun _ => rfl)) (fun _ _ h => h))) (fun _ _ h => h)).mono (by omega) (by omega) (fun _ _ h => h)
theorem s_put {c : Int → Prop} {D : DD} {m k v M : Int} {L : List (Int × Int)} (h : TM c D m L M) (hs : srt L) (hk : isBox (1000428 + k)) (hv : isBox (1000428 + v)) (hM : M < 900000) (hL : L.length ≤ 60) (hT : dT D < 600000) (hS : dS D + 6 ≤ 7200000) :
    ∃ r D' L', fX18_put m (1000428 + k) (1000428 + v) D = some (r, D') ∧ Put L k v L' ∧ TM (nx c D D') D' m L' (M + 1) ∧ Ev c 1 6 D D' := by
  obtain ⟨⟨h1, hc⟩, h2, h3, h4, h5, h6, t, t1, t2, t3, t4⟩ := h
  have hcm : ∀ a, a = m ∨ a ∈ addrs t → c a := fun a q => q.elim (fun q => q ▸ hc) (t4 a)
  have keep : ∀ {D' : DD} {k' s' : Int}, Ev (fun a => a = m ∨ a ∈ addrs t) k' s' D D' → (∀ j, j ≠ 3 → j ≠ 4 → j ≠ 5 → dW D' m j = dW D m j) → (dW D' m 6 = 0 ∨ (dO D' (dW D' m 6) 14 ∧ nx c D D' (dW D' m 6) ∧ dW D' (dW D' m 6) 0 = m)) ∧ (dW D' m 1 = 0 ∨ (dO D' (dW D' m 1) 16 ∧ nx c D D' (dW D' m 1) ∧ dW D' (dW D' m 1) 0 = m)) := by
    intro D' k' s' E w
    rw [w 6 (by decide) (by decide) (by decide), w 1 (by decide) (by decide) (by decide)]
    refine ⟨h5.imp id (fun q => ⟨E.dO q.1, Or.inl q.2.1, ?_⟩), h6.imp id (fun q => ⟨E.dO q.1, Or.inl q.2.1, ?_⟩)⟩
    · rw [E.at q.1.2.1 (fun p => p.elim (fun p => dO_ne q.1 h1 (by decide) p) (fun p => dO_ne q.1 (TD_addr t1 _ p) (by decide) rfl))]
      exact q.2.2
    · rw [E.at q.1.2.1 (fun p => p.elim (fun p => dO_ne q.1 h1 (by decide) p) (fun p => dO_ne q.1 (TD_addr t1 _ p) (by decide) rfl))]
      exact q.2.2
  unfold fX18_put fX18_put_
  rw [if_pos h1]
  have k0 : (1000428 + k : Int) ≠ 0 := by have := hk.1; omega
  by_cases hr : dW D m 3 = 0
  · rw [if_pos hr]
    have hnil : t = .nil := by
      rcases TD_x t1 with q | q
      · exact q.2
      · have := q.2.1; omega
    subst hnil
    have hL0 : L = [] := t3.symm
    subst hL0
    obtain ⟨D', w1, w2, w3, w4, w5, w6⟩ := s_emptyAdd h1 h2 hk hv (by omega) hT hS
    rw [w1]
    simp only [Option.bind_some]
    have E : Ev (fun a => a = m ∨ a ∈ addrs .nil) 1 6 D D' := w6.mono (Int.le_refl _) (Int.le_refl _) (fun a _ q => Or.inl q)
    obtain ⟨k6, k1⟩ := keep E w5
    refine ⟨0, D', [(k, v)], by rw [if_pos h1], ⟨[], [], by simp, by simp, rfl, Or.inl rfl⟩, ⟨⟨w6.dO h1, Or.inl hc⟩, by rw [w5 2 (by decide) (by decide) (by decide)]; exact h2, by rw [w3]; rfl, ⟨by rw [w4]; omega, by rw [w4]; omega⟩, k6, k1, _, w2, by simp [addrs_nd, addrs_nil], rfl, fun a ha => ?_⟩, w6.mono (Int.le_refl _) (Int.le_refl _) (fun a _ q => by rw [q]; exact hc)⟩
    have : a = dT D := by simpa [addrs_nd, addrs_nil] using ha
    subst this
    exact Or.inr ⟨Int.le_refl _, (w2.2.1.1).2.1⟩
  · rw [if_neg hr, if_pos h2, s_reqNN k0]
    simp only [Option.bind_some]
    rw [if_pos hk]
    have st : St D m t [] (dW D m 3) := ⟨h1, by simpa [paddrs] using t2, t1, rfl⟩
    have hAl : (addrs t).length < 99980 := by rw [tsz_addr, ← tsz_len, t3]; omega
    have hsz : tsz t ≤ 60 := by rw [← tsz_len, t3]; exact hL
    rcases s_find (I := L) (A := addrs t) hk hv hs (by rw [h3]; omega) (by omega) hT hS hAl (tsz t) t [] (dW D m 3) st hr (Nat.le_refl _) t3 (by simp [paddrs]) (by simp [preO]) (by simp [postO]) FU (by unfold FU; omega) with ⟨y, v0, l, r, fs', w1, w2, w3, w4, w5, w6⟩ | ⟨D', w1, ⟨t', w2, w3, w4, w5⟩, w6, w7, w8, w9⟩
    · rw [w1]
      simp only [Option.bind_some]
      have yO : dO D y 12 := w2.2.2.1.2.1.1
      have ym : m ≠ y := dO_ne h1 yO (by decide)
      have yA : y ∈ addrs t := w4.mem_iff.mp (by simp [addrs_nd, addrs_nil])
      rw [if_pos yO, if_neg (by decide), zl_eq]
      have hwy : ∀ a j, (a ≠ y ∨ j ≠ 1) → dW (dup D y 1 (1000428 + v)) a j = dW D a j := fun a j hj => by rw [dup_at, if_neg (fun q => by omega)]
      have E : Ev (fun a => a = m ∨ a ∈ addrs t) 0 0 D (dup D y 1 (1000428 + v)) := Ev.dup _ (fun _ => Or.inr yA)
      obtain ⟨k6, k1⟩ := keep E (fun j _ _ _ => hwy m j (Or.inl ym))
      have st' : St (dup D y 1 (1000428 + v)) m (.nd l y k v r) fs' y := by
        obtain ⟨g1, g2, ⟨g3, g4, g5, g6, g7⟩, g8⟩ := w2
        have nd := g2
        rw [List.nodup_append] at nd
        have nd1 := nd.1
        simp only [addrs_nd, addrs_nil, List.nodup_cons, List.mem_append, not_or] at nd1
        have oth : ∀ a, a ≠ y → ∀ j, dW (dup D y 1 (1000428 + v)) a j = dW D a j := fun a ha j => hwy a j (Or.inl ha)
        refine ⟨g1, g2, ⟨rfl, ⟨yO, hk, hv, ?_, ?_⟩, ?_, ?_, ?_⟩, ?_⟩
        · rw [hwy y 0 (Or.inr (by decide))]; exact g4.2.2.2.1
        · rw [dup_at, if_pos ⟨rfl, rfl⟩]
        · rw [hwy y 4 (Or.inr (by decide))]; exact g5
        · rw [hwy y 2 (Or.inr (by decide))]
          exact TD_ag (D := D) (D' := dup D y 1 (1000428 + v)) (fun _ _ h => h) (fun a ha j _ => oth a (fun q => nd1.1.1 (q ▸ ha)) j) g6
        · rw [hwy y 3 (Or.inr (by decide))]
          exact TD_ag (D := D) (D' := dup D y 1 (1000428 + v)) (fun _ _ h => h) (fun a ha j _ => oth a (fun q => nd1.1.2 (q ▸ ha)) j) g7
        · exact PD_ag (D := D) (D' := dup D y 1 (1000428 + v)) (fun _ _ h => h) (hwy m 3 (Or.inl ym)) (fun a ha j _ => oth a (fun q => nd.2.2 y (by simp [addrs_nd, addrs_nil]) a ha q.symm) j) g8
      have hroot := st'.root
      rw [inord_pp] at w3
      refine ⟨dW D y 1, dup D y 1 (1000428 + v), inord (plug fs' (.nd l y k v r)), by show (if dO D m 11 then _ else _) = _; rw [if_pos h1], ?_, ⟨⟨h1, Or.inl hc⟩, by rw [hwy m 2 (Or.inl ym)]; exact h2, ?_, ⟨by rw [hwy m 5 (Or.inl ym)]; omega, by rw [hwy m 5 (Or.inl ym)]; omega⟩, k6, k1, _, hroot, ?_, rfl, fun a ha => ?_⟩, E.mono (by omega) (by omega) (fun a _ q => hcm a q)⟩
      · rw [inord_pp]
        have hmid : srt ((preO fs' ++ inord l) ++ (k, v0) :: (inord r ++ postO fs')) := by
          rw [← w3] at hs
          simpa [inord_nd, inord_nil, List.append_assoc] using hs
        obtain ⟨hlo, hhi⟩ := srt_mid hmid
        exact ⟨preO fs' ++ inord l, inord r ++ postO fs', hlo, hhi, by simp [inord_nd, inord_nil], Or.inr ⟨v0, by rw [← w3]; simp [inord_nd, inord_nil]⟩⟩
      · rw [hwy m 4 (Or.inl ym), h3, ← w3, inord_pp]
        simp [inord_nd, inord_nil]
      · exact (plug_perm fs' _).nodup_iff.mpr st'.2.1
      · exact Or.inl (t4 a (w4.mem_iff.mp (show a ∈ addrs (.nd l y k v0 r) ++ paddrs fs' from (plug_perm fs' (.nd l y k v r)).mem_iff.mp ha)))
    · rw [w1]
      simp only [Option.bind_some]
      obtain ⟨k6, k1⟩ := keep w9 w8
      have hnd : (addrs t').Nodup := w5.nodup_iff.mpr (List.nodup_cons.mpr ⟨fun q => by have := (TD_addr t1 _ q).2.1; omega, t2⟩)
      refine ⟨0, D', inord t', by rw [if_pos h1], w3, ⟨⟨w9.dO h1, Or.inl hc⟩, by rw [w8 2 (by decide) (by decide) (by decide)]; exact h2, by rw [w6, h3, w4]; simp, ⟨by rw [w7]; omega, by rw [w7]; omega⟩, k6, k1, t', w2, hnd, rfl, fun a ha => ?_⟩, w9.mono (Int.le_refl _) (Int.le_refl _) (fun a _ q => hcm a q)⟩
      have q := w5.mem_iff.mp ha
      rw [List.mem_cons] at q
      rcases q with q | q
      · exact Or.inr ⟨by omega, (TD_addr w2 a ha).2.1⟩
      · exact Or.inl (t4 a q)
