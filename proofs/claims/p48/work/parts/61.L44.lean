set_option maxRecDepth 20000
/-! the text of a setup -/
theorem sch_ok : ∀ i : Nat, i < 48 → (zST (1000200 + i)).2 = ((zKCl.lookup (1000200 + i)).getD []).length ∧ (∀ c ∈ ((zKCl.lookup (1000200 + i)).getD []), 0 ≤ c ∧ c < 128) ∧ ((zKCl.lookup (1000200 + i)).getD []).length ≤ 400 := by decide +kernel
theorem Src.st {D : DD} {k : Nat} (h : k < 48) : Src D ((1000100 + k : Nat) : Int) (sch (1000100 + k)) := by
  obtain ⟨a1, a2, a3⟩ := sch_ok k h
  have e : 1000100 + k + 100 = 1000200 + k := by omega
  refine ⟨Or.inl ⟨⟨by omega, by omega⟩, ?_, fun i hi => ?_⟩, ?_, ?_⟩
  · rw [show ((((1000100 + k : Nat) : Int) + 100).toNat) = 1000200 + k by omega, a1]
    unfold sch
    rw [e]
  · rw [show ((((1000100 + k : Nat) : Int) + 100).toNat) = 1000200 + k by omega]
    unfold zKC sch
    rw [e, Int.toNat_natCast]
  · unfold sch; rw [e]; exact a2
  · unfold sch; rw [e]; exact a3
def rp (f : Int → List Int) : Nat → List Int
  | 0 => []
  | n + 1 => rp f n ++ f n
theorem rp_len {f : Int → List Int} {c : Nat} (h : ∀ k : Nat, (f k).length ≤ c) : ∀ n, (rp f n).length ≤ c * n
  | 0 => Nat.zero_le _
  | n + 1 => by
    have := rp_len h n
    have := h n
    show (rp f n ++ f n).length ≤ _
    rw [List.length_append, Nat.mul_succ]
    omega
def tx3 (k : Nat) (a b c : Int) : List Int := sch k ++ nm a ++ [32] ++ nm b ++ [32] ++ nm c
def tx2 (k : Nat) (a b : Int) : List Int := sch k ++ nm a ++ [32] ++ nm b
def txR (S : HStp) : List Int := sch 1000105 ++ nm S.tr ++ sch 1000106 ++ nm S.st ++ sch 1000106 ++ nm S.we
def txW (S : HStp) (k : Int) : List Int := tx3 1000108 (S.w k 0) (S.w k 1) (S.w k 2)
def txH (S : HStp) (k : Int) : List Int := tx2 1000109 (S.h k 0) (S.h k 1)
def txM (S : HStp) (k : Int) : List Int := tx2 1000110 (S.m k 0) (S.m k 1)
def txC (S : HStp) (k : Int) : List Int := tx3 1000111 (S.c k 0) (S.c k 1) (S.c k 2)
def txt (S : HStp) : List Int := txR S ++ rp (txW S) S.nw.toNat ++ rp (txH S) S.nh.toNat ++ rp (txM S) S.nm.toNat ++ rp (txC S) S.nc.toNat
theorem nm_le (n : Int) : (nm n).length ≤ 2 := by unfold nm; split <;> simp
theorem tx3_le {k : Nat} {m : Nat} (a b c : Int) (h : (sch k).length ≤ m) : (tx3 k a b c).length ≤ m + 8 := by
  unfold tx3
  have := nm_le a
  have := nm_le b
  have := nm_le c
  simp only [List.length_append, List.length_cons, List.length_nil]
  omega
theorem tx2_le {k : Nat} {m : Nat} (a b : Int) (h : (sch k).length ≤ m) : (tx2 k a b).length ≤ m + 5 := by
  unfold tx2
  have := nm_le a
  have := nm_le b
  simp only [List.length_append, List.length_cons, List.length_nil]
  omega
theorem sch_l : (sch 1000105).length = 6 ∧ (sch 1000106).length = 1 ∧ (sch 1000108).length = 6 ∧ (sch 1000109).length = 11 ∧ (sch 1000110).length = 8 ∧ (sch 1000111).length = 8 := by decide +kernel
theorem txW_le (S : HStp) (k : Int) : (txW S k).length ≤ 14 := tx3_le (m := 6) _ _ _ (by rw [sch_l.2.2.1]; decide)
theorem txH_le (S : HStp) (k : Int) : (txH S k).length ≤ 16 := tx2_le (m := 11) _ _ (by rw [sch_l.2.2.2.1]; decide)
theorem txM_le (S : HStp) (k : Int) : (txM S k).length ≤ 13 := tx2_le (m := 8) _ _ (by rw [sch_l.2.2.2.2.1]; decide)
theorem txC_le (S : HStp) (k : Int) : (txC S k).length ≤ 16 := tx3_le (m := 8) _ _ _ (by rw [sch_l.2.2.2.2.2]; decide)
theorem txR_le (S : HStp) : (txR S).length ≤ 14 := by
  unfold txR
  have := nm_le S.tr
  have := nm_le S.st
  have := nm_le S.we
  simp only [List.length_append, sch_l.1, sch_l.2.1]
  omega
section TX
variable {P P' : Int → Prop} {D D' : DD} {b : Int} {l : List Int}
theorem SB.re (h : SB P D b l) (h1 : P' b) (h2 : P' (dW D b 0)) : SB P' D b l := ⟨h.1, h1, h.2.2.1, h.2.2.2.1, ⟨h.2.2.2.2.1.1, h2⟩, h.2.2.2.2.2.1, h.2.2.2.2.2.2.1, h.2.2.2.2.2.2.2⟩
theorem SB.ev {Q : Int → Prop} {c s : Int} (h : SB P D b l) (E : Ev Q c s D D') (h1 : ¬ Q b) (h2 : ¬ Q (dW D b 0)) : SB P D' b l := by
  obtain ⟨g1, gb, g2, g3, ⟨g4, g5⟩, ⟨g6, g7⟩, g8, g9⟩ := h
  have e := fun j => E.at g1.2.1 h1 j
  exact ⟨E.dO g1, gb, by rw [e]; exact g2, by rw [e]; exact g3, by rw [e]; exact ⟨E.dO g4, g5⟩, by rw [e, E.sz g4]; exact ⟨g6, g7⟩, fun i hi => by rw [e, E.at g4.2.1 h2]; exact g8 i hi, g9⟩
/-- three numbers behind a word -/
theorem s_tx3 {k : Nat} {a0 a1 a2 : Int} (h : SB P D b l) (hk : k < 48) (h0 : 0 ≤ a0 ∧ a0 < 100) (h1 : 0 ≤ a1 ∧ a1 < 100) (h2 : 0 ≤ a2 ∧ a2 < 100) (hl : l.length + (sch (1000100 + k)).length ≤ 390) (hT : dT D + 10 < 600000) (hS : dS D + 8000 ≤ 7200000) (hP : ∀ a, dT D ≤ a → P a) :
    ∃ D1 D2 D3 D4 D5 D6, fJ4_append_15ec4 b ((1000100 + k : Nat) : Int) D = some (b, D1) ∧ fJ4_append_bf812 b a0 D1 = some (b, D2) ∧ fJ4_append_cf468 b 32 D2 = some (b, D3) ∧ fJ4_append_bf812 b a1 D3 = some (b, D4) ∧ fJ4_append_cf468 b 32 D4 = some (b, D5) ∧ fJ4_append_bf812 b a2 D5 = some (b, D6) ∧ (Ev P 1 1000 D D1 ∧ Ev P 2 2000 D D2 ∧ Ev P 3 3000 D D3 ∧ Ev P 4 4000 D D4 ∧ Ev P 5 5000 D D5) ∧ SB P D6 b (l ++ tx3 (1000100 + k) a0 a1 a2) ∧ Ev P 6 6000 D D6 := by
  have n0 := nm_le a0
  have n1 := nm_le a1
  obtain ⟨D1, w1, w2, w3⟩ := s_appS h (Src.st hk) (fun q => by omega) (by omega) (by omega) (by omega) hP
  have L1 : (l ++ sch (1000100 + k)).length = l.length + (sch (1000100 + k)).length := List.length_append
  obtain ⟨D2, x1, x2, x3⟩ := s_appI w2 h0 (by omega) (by have := w3.2.1; omega) (by have := w3.2.2.2.1; omega) (fun a ha => hP a (by have := w3.1; omega))
  have L2 : (l ++ sch (1000100 + k) ++ nm a0).length = l.length + (sch (1000100 + k)).length + (nm a0).length := by rw [List.length_append, L1]
  have E2 := (w3.trans x3 (fun _ _ z => z)).mono (c' := 2) (s' := 2000) (by decide) (by decide) (fun _ _ z => z)
  obtain ⟨D3, y1, y2, y3⟩ := s_appC (c := 32) x2 (by decide) (by omega) (by have := E2.2.1; omega) (by have := E2.2.2.2.1; omega) (fun a ha => hP a (by have := E2.1; omega))
  have L3 : (l ++ sch (1000100 + k) ++ nm a0 ++ [32]).length = l.length + (sch (1000100 + k)).length + (nm a0).length + 1 := by rw [List.length_append, L2]; rfl
  have E3 := (E2.trans y3 (fun _ _ z => z)).mono (c' := 3) (s' := 3000) (by decide) (by decide) (fun _ _ z => z)
  obtain ⟨D4, z1, z2, z3⟩ := s_appI y2 h1 (by omega) (by have := E3.2.1; omega) (by have := E3.2.2.2.1; omega) (fun a ha => hP a (by have := E3.1; omega))
  have L4 : (l ++ sch (1000100 + k) ++ nm a0 ++ [32] ++ nm a1).length = l.length + (sch (1000100 + k)).length + (nm a0).length + 1 + (nm a1).length := by rw [List.length_append, L3]
  have E4 := (E3.trans z3 (fun _ _ z => z)).mono (c' := 4) (s' := 4000) (by decide) (by decide) (fun _ _ z => z)
  obtain ⟨D5, u1, u2, u3⟩ := s_appC (c := 32) z2 (by decide) (by omega) (by have := E4.2.1; omega) (by have := E4.2.2.2.1; omega) (fun a ha => hP a (by have := E4.1; omega))
  have L5 : (l ++ sch (1000100 + k) ++ nm a0 ++ [32] ++ nm a1 ++ [32]).length = l.length + (sch (1000100 + k)).length + (nm a0).length + 1 + (nm a1).length + 1 := by rw [List.length_append, L4]; rfl
  have E5 := (E4.trans u3 (fun _ _ z => z)).mono (c' := 5) (s' := 5000) (by decide) (by decide) (fun _ _ z => z)
  obtain ⟨D6, v1, v2, v3⟩ := s_appI u2 h2 (by omega) (by have := E5.2.1; omega) (by have := E5.2.2.2.1; omega) (fun a ha => hP a (by have := E5.1; omega))
  have E6 := (E5.trans v3 (fun _ _ z => z)).mono (c' := 6) (s' := 6000) (by decide) (by decide) (fun _ _ z => z)
  refine ⟨D1, D2, D3, D4, D5, D6, w1, x1, y1, z1, u1, v1, ⟨w3, E2, E3, E4, E5⟩, ?_, E6⟩
  have e : l ++ tx3 (1000100 + k) a0 a1 a2 = l ++ sch (1000100 + k) ++ nm a0 ++ [32] ++ nm a1 ++ [32] ++ nm a2 := by
    unfold tx3
    simp only [List.append_assoc]
  rw [e]
  exact v2
theorem s_tx2 {k : Nat} {a0 a1 : Int} (h : SB P D b l) (hk : k < 48) (h0 : 0 ≤ a0 ∧ a0 < 100) (h1 : 0 ≤ a1 ∧ a1 < 100) (hl : l.length + (sch (1000100 + k)).length ≤ 390) (hT : dT D + 10 < 600000) (hS : dS D + 8000 ≤ 7200000) (hP : ∀ a, dT D ≤ a → P a) :
    ∃ D1 D2 D3 D4, fJ4_append_15ec4 b ((1000100 + k : Nat) : Int) D = some (b, D1) ∧ fJ4_append_bf812 b a0 D1 = some (b, D2) ∧ fJ4_append_cf468 b 32 D2 = some (b, D3) ∧ fJ4_append_bf812 b a1 D3 = some (b, D4) ∧ (Ev P 1 1000 D D1 ∧ Ev P 2 2000 D D2 ∧ Ev P 3 3000 D D3) ∧ SB P D4 b (l ++ tx2 (1000100 + k) a0 a1) ∧ Ev P 4 4000 D D4 := by
  have n0 := nm_le a0
  have n1 := nm_le a1
  obtain ⟨D1, w1, w2, w3⟩ := s_appS h (Src.st hk) (fun q => by omega) (by omega) (by omega) (by omega) hP
  have L1 : (l ++ sch (1000100 + k)).length = l.length + (sch (1000100 + k)).length := List.length_append
  obtain ⟨D2, x1, x2, x3⟩ := s_appI w2 h0 (by omega) (by have := w3.2.1; omega) (by have := w3.2.2.2.1; omega) (fun a ha => hP a (by have := w3.1; omega))
  have L2 : (l ++ sch (1000100 + k) ++ nm a0).length = l.length + (sch (1000100 + k)).length + (nm a0).length := by rw [List.length_append, L1]
  have E2 := (w3.trans x3 (fun _ _ z => z)).mono (c' := 2) (s' := 2000) (by decide) (by decide) (fun _ _ z => z)
  obtain ⟨D3, y1, y2, y3⟩ := s_appC (c := 32) x2 (by decide) (by omega) (by have := E2.2.1; omega) (by have := E2.2.2.2.1; omega) (fun a ha => hP a (by have := E2.1; omega))
  have L3 : (l ++ sch (1000100 + k) ++ nm a0 ++ [32]).length = l.length + (sch (1000100 + k)).length + (nm a0).length + 1 := by rw [List.length_append, L2]; rfl
  have E3 := (E2.trans y3 (fun _ _ z => z)).mono (c' := 3) (s' := 3000) (by decide) (by decide) (fun _ _ z => z)
  obtain ⟨D4, z1, z2, z3⟩ := s_appI y2 h1 (by omega) (by have := E3.2.1; omega) (by have := E3.2.2.2.1; omega) (fun a ha => hP a (by have := E3.1; omega))
  have E4 := (E3.trans z3 (fun _ _ z => z)).mono (c' := 4) (s' := 4000) (by decide) (by decide) (fun _ _ z => z)
  refine ⟨D1, D2, D3, D4, w1, x1, y1, z1, ⟨w3, E2, E3⟩, ?_, E4⟩
  have e : l ++ tx2 (1000100 + k) a0 a1 = l ++ sch (1000100 + k) ++ nm a0 ++ [32] ++ nm a1 := by
    unfold tx2
    simp only [List.append_assoc]
  rw [e]
  exact z2
end TX
