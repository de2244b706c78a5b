set_option maxRecDepth 20000
/-! trees -/
def wfT : Int.Internal.Linear.Expr → Bool
  | .num n => n == 0
  | .add (.add l r) (.mulL _ (.mulL _ (.num _))) => wfT l && wfT r
  | _ => false
def T : Type := { e : Int.Internal.Linear.Expr // wfT e = true }
def T.nil : T := ⟨.num 0, rfl⟩
def T.nd (l : T) (a k v : Int) (r : T) : T := ⟨.add (.add l.1 r.1) (.mulL a (.mulL k (.num v))), by show (wfT l.1 && wfT r.1) = true; rw [l.2, r.2]; rfl⟩
def foldT {α : Type} (z : α) (f : α → Int → Int → Int → α → α) : Int.Internal.Linear.Expr → α
  | .add (.add l r) (.mulL a (.mulL k (.num v))) => f (foldT z f l) a k v (foldT z f r)
  | _ => z
theorem T.ind {P : T → Prop} (nil : P .nil) (nd : ∀ l a k v r, P l → P r → P (.nd l a k v r)) (t : T) : P t := by
  obtain ⟨e, he⟩ := t
  have : ∀ n (e : Int.Internal.Linear.Expr), SizeOf.sizeOf e ≤ n → ∀ he, P ⟨e, he⟩ := by
    intro n
    induction n with
    | zero => intro e h; cases e <;> simp at h
    | succ n ih =>
      intro e hs he
      cases e with
      | num m =>
        have : m = 0 := by simpa [wfT] using he
        subst this
        exact nil
      | add x y =>
        cases x with
        | add l r =>
          cases y with
          | mulL a y2 =>
            cases y2 with
            | mulL k y3 =>
              cases y3 with
              | num v =>
                have he2 : (wfT l && wfT r) = true := he
                rw [Bool.and_eq_true] at he2
                simp at hs
                exact nd ⟨l, he2.1⟩ a k v ⟨r, he2.2⟩ (ih l (by omega) he2.1) (ih r (by omega) he2.2)
              | _ => exact absurd he (by simp [wfT])
            | _ => exact absurd he (by simp [wfT])
          | _ => exact absurd he (by simp [wfT])
        | _ => exact absurd he (by simp [wfT])
      | _ => exact absurd he (by simp [wfT])
  exact this _ e (Nat.le_refl _) he
theorem T.cas {P : T → Prop} (nil : P .nil) (nd : ∀ l a k v r, P (.nd l a k v r)) (t : T) : P t := T.ind nil (fun l a k v r _ _ => nd l a k v r) t
def addrs (t : T) : List Int := foldT [] (fun l a _ _ r => a :: (l ++ r)) t.1
theorem addrs_nil : addrs .nil = [] := rfl
theorem addrs_nd (l r : T) (a k v : Int) : addrs (.nd l a k v r) = a :: (addrs l ++ addrs r) := rfl
def inord (t : T) : List (Int × Int) := foldT [] (fun l _ k v r => l ++ (k, v) :: r) t.1
theorem inord_nil : inord .nil = [] := rfl
theorem inord_nd (l r : T) (a k v : Int) : inord (.nd l a k v r) = inord l ++ (k, v) :: inord r := rfl
abbrev nO (D : DD) (a k v : Int) : Prop := dO D a 12 ∧ isBox (1000428 + k) ∧ isBox (1000428 + v) ∧ dW D a 0 = 1000428 + k ∧ dW D a 1 = 1000428 + v
def TD (D : DD) (t : T) : Int → Int → Prop := foldT (fun _ x => x = 0) (fun l a k v r p x => x = a ∧ nO D a k v ∧ dW D a 4 = p ∧ l a (dW D a 2) ∧ r a (dW D a 3)) t.1
theorem TD_nil (D : DD) (p x : Int) : TD D .nil p x = (x = 0) := rfl
theorem TD_nd (D : DD) (l r : T) (a k v p x : Int) : TD D (.nd l a k v r) p x = (x = a ∧ nO D a k v ∧ dW D a 4 = p ∧ TD D l a (dW D a 2) ∧ TD D r a (dW D a 3)) := rfl
abbrev Fm : Type := Bool × Int × Int × Int × T
abbrev Fm.left (f : Fm) : Bool := f.1
abbrev Fm.a (f : Fm) : Int := f.2.1
abbrev Fm.k (f : Fm) : Int := f.2.2.1
abbrev Fm.v (f : Fm) : Int := f.2.2.2.1
abbrev Fm.o (f : Fm) : T := f.2.2.2.2
def par : List Fm → Int
  | [] => 0
  | f :: _ => f.a
def PD (D : DD) (m : Int) : List Fm → Int → Prop
  | [], x => dW D m 3 = x
  | f :: fs, x => nO D f.a f.k f.v ∧ dW D f.a 4 = par fs ∧ (if f.left then dW D f.a 2 = x ∧ TD D f.o f.a (dW D f.a 3) else dW D f.a 3 = x ∧ TD D f.o f.a (dW D f.a 2)) ∧ PD D m fs f.a
def paddrs : List Fm → List Int
  | [] => []
  | f :: fs => f.a :: (addrs f.o ++ paddrs fs)
def plug : List Fm → T → T
  | [], t => t
  | f :: fs, t => plug fs (if f.left then .nd t f.a f.k f.v f.o else .nd f.o f.a f.k f.v t)
theorem TD_x {D : DD} {t : T} {p x : Int} (h : TD D t p x) : x = 0 ∧ t = .nil ∨ x ∈ addrs t ∧ dO D x 12 := by
  cases t using T.cas with
  | nil => exact Or.inl ⟨h, rfl⟩
  | nd l a k v r =>
    obtain ⟨rfl, h2, -⟩ := h
    exact Or.inr ⟨by simp [addrs_nd, addrs_nil], h2.1⟩
theorem TD_addr {D : DD} {t : T} : ∀ {p x : Int}, TD D t p x → ∀ a ∈ addrs t, dO D a 12 := by
  induction t using T.ind with
  | nil => intro p x _ a ha; cases ha
  | nd l a k v r ihl ihr =>
    intro p x h b hb
    rw [TD_nd] at h
    obtain ⟨-, h2, -, h4, h5⟩ := h
    rw [addrs_nd] at hb
    simp only [List.mem_cons, List.mem_append] at hb
    rcases hb with rfl | hb | hb
    · exact h2.1
    · exact ihl h4 b hb
    · exact ihr h5 b hb
/-- the same things, other contents -/
abbrev Sm (D D' : DD) : Prop := dT D' = dT D ∧ dH D' = dH D ∧ dS D' = dS D
theorem Sm.trans {A B C : DD} (h : Sm A B) (h' : Sm B C) : Sm A C := ⟨h'.1.trans h.1, h'.2.1.trans h.2.1, h'.2.2.trans h.2.2⟩
theorem Sm.dO {D D' : DD} (h : Sm D D') {e : Int} {s : Nat} (hO : dO D e s) : dO D' e s := ⟨hO.1, by rw [h.1]; exact hO.2.1, by rw [h.2.1]; exact hO.2.2⟩
theorem nO_ag {D D' : DD} (hs : ∀ e s, dO D e s → dO D' e s) {a k v : Int} (h : ∀ j : Int, j < 2 → dW D' a j = dW D a j) (hn : nO D a k v) : nO D' a k v := ⟨hs _ _ hn.1, hn.2.1, hn.2.2.1, by rw [h _ (by decide)]; exact hn.2.2.2.1, by rw [h _ (by decide)]; exact hn.2.2.2.2⟩
theorem TD_ag {D D' : DD} (hs : ∀ e s, dO D e s → dO D' e s) {t : T} : ∀ {p x : Int}, (∀ a ∈ addrs t, ∀ j, j < 5 → dW D' a j = dW D a j) → TD D t p x → TD D' t p x := by
  induction t using T.ind with
  | nil => intro p x _ h; exact h
  | nd l a k v r ihl ihr =>
    intro p x hA h
    rw [TD_nd] at h ⊢
    obtain ⟨h1, h2, h3, h4, h5⟩ := h
    have ha := hA a (by simp [addrs_nd])
    refine ⟨h1, nO_ag hs (fun j hj => ha j (by omega)) h2, by rw [ha 4 (by decide)]; exact h3, ?_, ?_⟩
    · rw [ha 2 (by decide)]
      exact ihl (fun b hb => hA b (by simp [addrs_nd, hb])) h4
    · rw [ha 3 (by decide)]
      exact ihr (fun b hb => hA b (by simp [addrs_nd, hb])) h5
/-- .. and another parent -/
theorem TD_agp {D D' : DD} (hs : ∀ e s, dO D e s → dO D' e s) {t : T} {p p' x : Int} (hn : (addrs t).Nodup) (hA : ∀ a ∈ addrs t, ∀ j, j < 5 → (a = x ∧ j = 4) ∨ dW D' a j = dW D a j) (hp : x ≠ 0 → dW D' x 4 = p') (h : TD D t p x) : TD D' t p' x := by
  cases t using T.cas with
  | nil => exact h
  | nd l a k v r =>
    obtain ⟨rfl, h2, h3, h4, h5⟩ := h
    have ha := hA x (by simp [addrs_nd, addrs_nil])
    have ha' : ∀ j, j < 4 → dW D' x j = dW D x j := fun j hj => (ha j (by omega)).elim (fun q => by omega) id
    simp only [addrs_nd, addrs_nil, List.nodup_cons, List.mem_append, not_or] at hn
    refine ⟨rfl, nO_ag hs (fun j hj => ha' j (by omega)) h2, hp (by have := h2.1.1; omega), ?_, ?_⟩
    · rw [ha' 2 (by decide)]
      exact TD_ag hs (fun b hb j hj => (hA b (by simp [addrs_nd, addrs_nil, hb]) j hj).elim (fun q => absurd (q.1 ▸ hb) hn.1.1) id) h4
    · rw [ha' 3 (by decide)]
      exact TD_ag hs (fun b hb j hj => (hA b (by simp [addrs_nd, addrs_nil, hb]) j hj).elim (fun q => absurd (q.1 ▸ hb) hn.1.2) id) h5
theorem PD_ag {D D' : DD} (hs : ∀ e s, dO D e s → dO D' e s) {m : Int} (hm : dW D' m 3 = dW D m 3) : ∀ {fs : List Fm} {x : Int}, (∀ a ∈ paddrs fs, ∀ j, j < 5 → dW D' a j = dW D a j) → PD D m fs x → PD D' m fs x
  | [], x, _, h => by
    show dW D' m 3 = x
    rw [hm]
    exact h
  | f :: fs, x, hA, h => by
    obtain ⟨h1, h2, h3, h4⟩ := h
    have ha := hA f.a (by simp [paddrs])
    refine ⟨nO_ag hs (fun j hj => ha j (by omega)) h1, by rw [ha 4 (by decide)]; exact h2, ?_, PD_ag hs hm (fun b hb => hA b (by simp [paddrs, hb])) h4⟩
    rw [ha 2 (by decide), ha 3 (by decide)]
    by_cases c : f.left = true
    · rw [if_pos c] at h3 ⊢
      exact ⟨h3.1, TD_ag hs (fun b hb => hA b (by simp [paddrs, hb])) h3.2⟩
    · rw [if_neg c] at h3 ⊢
      exact ⟨h3.1, TD_ag hs (fun b hb => hA b (by simp [paddrs, hb])) h3.2⟩
/-- .. and another thing at the place -/
theorem PD_agx {D D' : DD} (hs : ∀ e s, dO D e s → dO D' e s) {m : Int} {fs : List Fm} {x x' : Int} (hn : (paddrs fs).Nodup)
    (hA : ∀ a ∈ paddrs fs, ∀ j, j < 5 → (a = par fs ∧ ∃ f gs, fs = f :: gs ∧ j = if f.left then 2 else 3) ∨ dW D' a j = dW D a j)
    (hm : fs ≠ [] → dW D' m 3 = dW D m 3) (h0 : fs = [] → dW D' m 3 = x') (hx : ∀ f gs, fs = f :: gs → dW D' f.a (if f.left then 2 else 3) = x') (h : PD D m fs x) : PD D' m fs x' := by
  cases fs with
  | nil => exact h0 rfl
  | cons f fs =>
    obtain ⟨h1, h2, h3, h4⟩ := h
    have ha := hA f.a (by simp [paddrs])
    have hx := hx f fs rfl
    have ha' : ∀ j, j < 5 → j ≠ (if f.left then 2 else 3) → dW D' f.a j = dW D f.a j := fun j hj hne => (ha j hj).elim (fun q => by
      obtain ⟨-, f', gs, e, q⟩ := q
      cases e
      exact absurd q hne) id
    simp only [paddrs, List.nodup_cons, List.mem_append, not_or] at hn
    have hr : ∀ b, (b ∈ addrs f.o ∨ b ∈ paddrs fs) → ∀ j, j < 5 → dW D' b j = dW D b j := fun b hb j hj => (hA b (by simp [paddrs, hb]) j hj).elim (fun q => by
      have q1 : b = f.a := q.1
      subst q1
      exact absurd hb (by rw [not_or]; exact hn.1)) id
    refine ⟨nO_ag hs (fun j hj => ha' j (by omega) (by split <;> omega)) h1, by rw [ha' 4 (by decide) (by split <;> decide)]; exact h2, ?_, PD_ag hs (hm (by simp)) (fun b hb => hr b (Or.inr hb)) h4⟩
    by_cases c : f.left = true
    · rw [if_pos c] at h3 hx ⊢
      refine ⟨hx, ?_⟩
      rw [ha' 3 (by decide) (by rw [if_pos c]; decide)]
      exact TD_ag hs (fun b hb => hr b (Or.inl hb)) h3.2
    · rw [if_neg c] at h3 hx ⊢
      refine ⟨hx, ?_⟩
      rw [ha' 2 (by decide) (by rw [if_neg c]; decide)]
      exact TD_ag hs (fun b hb => hr b (Or.inl hb)) h3.2
