set_option maxRecDepth 20000
/-! a text that is read -/
def At (b : Int → Int) (p : Int) (l : List Int) : Prop := ∀ i : Nat, i < l.length → b (p + i) = l.getD i 0
theorem At.app {b : Int → Int} {p : Int} {x y : List Int} (h : At b p (x ++ y)) : At b p x ∧ At b (p + x.length) y := by
  refine ⟨fun i hi => ?_, fun i hi => ?_⟩
  · rw [h i (by rw [List.length_append]; omega), getD_app, if_pos hi]
  · have := h (x.length + i) (by rw [List.length_append]; omega)
    rw [getD_app, if_neg (by omega), show x.length + i - x.length = i by omega] at this
    rw [← this]
    congr 1
    omega
theorem scn_run {b : Int → Int} {Q : Int → Prop} [∀ x, Decidable (Q x)] : ∀ (m n : Nat) (p : Int), m < n → (∀ i : Nat, i < m → Q (b (p + i))) → ¬ Q (b (p + m)) → scn b Q n p = p + m
  | 0, n, p, h1, h2, h3 => by
    obtain ⟨n', rfl⟩ : ∃ n', n = n' + 1 := ⟨n - 1, by omega⟩
    unfold scn
    have h3 : ¬ Q (b (p + 0)) := h3
    rw [Int.add_zero] at h3
    rw [if_neg h3]
    show p = p + 0
    omega
  | m + 1, n, p, h1, h2, h3 => by
    obtain ⟨n', rfl⟩ : ∃ n', n = n' + 1 := ⟨n - 1, by omega⟩
    unfold scn
    have h0 := h2 0 (by omega)
    have h0 : Q (b (p + 0)) := h0
    rw [Int.add_zero] at h0
    rw [if_pos h0, scn_run m n' (p + 1) (by omega) (fun i hi => by
      have := h2 (i + 1) (by omega)
      rw [show p + ((i + 1 : Nat) : Int) = p + 1 + i by omega] at this
      exact this) (by
      rw [show p + ((m + 1 : Nat) : Int) = p + 1 + m by omega] at h3
      exact h3)]
    omega
theorem tS_0 {b : Int → Int} {p : Int} (h : b p ≠ 32) : tS b p = p := by
  have := scn_run (b := b) (Q := isSp) 0 601 p (by decide) (fun i hi => absurd hi (Nat.not_lt_zero i)) (by show ¬ b (p + 0) = 32; rw [Int.add_zero]; exact h)
  unfold tS
  rw [this]
  show p + 0 = p
  omega
theorem tS_1 {b : Int → Int} {p : Int} (h : b p = 32) (h2 : b (p + 1) ≠ 32) : tS b p = p + 1 := by
  exact scn_run (b := b) (Q := isSp) 1 601 p (by decide) (fun i hi => by
    have : i = 0 := by omega
    subst this
    show b (p + 0) = 32
    rw [Int.add_zero]; exact h) h2
/-- a number of one or two digits behind a space -/
theorem num_nm {b : Int → Int} {L lo hi p v : Int} (hs : b p = 32) (hv : 0 ≤ v ∧ v < 100) (ha : At b (p + 1) (nm v)) (hn : ¬ isDg (b (p + 1 + (nm v).length))) (hr : lo ≤ v ∧ v ≤ hi) : num b L lo hi p = .inr (v, p + 1 + (nm v).length) := by
  have hL := nm_len v
  have h1 : 1 ≤ (nm v).length ∧ (nm v).length ≤ 2 := by split at hL <;> omega
  have hd : ∀ i : Nat, i < (nm v).length → isDg (b (p + 1 + i)) := fun i hi => by
    rw [ha i hi]
    have := nm_ch hv _ (getD_mem hi)
    unfold isDg
    omega
  have h0 := hd 0 (by omega)
  have h0 : isDg (b (p + 1 + 0)) := h0
  rw [Int.add_zero] at h0
  have t1 : tS b p = p + 1 := tS_1 hs (by unfold isDg at h0; omega)
  have t2 : tE b L (p + 1) = p + 1 + (nm v).length := by
    unfold tE
    rw [if_neg (by unfold isDg at h0; unfold isLt; omega), if_pos h0]
    exact scn_run _ 601 _ (by omega) hd hn
  have t3 : tV b (p + 1) (p + 1 + (nm v).length) = v := by
    unfold tV
    rw [show (p + 1 + ((nm v).length : Int) - (p + 1)).toNat = (nm v).length by omega]
    by_cases c : v < 10
    · have e : nm v = [48 + v] := by unfold nm; rw [if_pos c]
      have a0 := ha 0 (by omega)
      rw [e] at a0 ⊢
      have a0 : b (p + 1 + 0) = 48 + v := a0
      rw [Int.add_zero] at a0
      show 0 * 10 + b (p + 1) - 48 = v
      omega
    · have e : nm v = [48 + v / 10, 48 + v % 10] := by unfold nm; rw [if_neg c]
      have hl2 : (nm v).length = 2 := by rw [e]; rfl
      have a0 := ha 0 (by omega)
      have a1 := ha 1 (by omega)
      rw [e] at a0 a1 ⊢
      have a0 : b (p + 1 + 0) = 48 + v / 10 := a0
      rw [Int.add_zero] at a0
      have a1 : b (p + 1 + 1) = 48 + v % 10 := a1
      show (0 * 10 + b (p + 1) - 48) * 10 + b (p + 1 + 1) - 48 = v
      omega
  unfold num
  rw [t1, t2, t3, if_pos ⟨h0, by omega, hr⟩]
theorem n2_nm {b : Int → Int} {L l1 h1 l2 h2 p u v : Int} (hs : b p = 32) (hu : 0 ≤ u ∧ u < 100) (hv : 0 ≤ v ∧ v < 100) (ha : At b (p + 1) (nm u ++ [32] ++ nm v)) (hn : ¬ isDg (b (p + 1 + (nm u ++ [32] ++ nm v).length))) (r1 : l1 ≤ u ∧ u ≤ h1) (r2 : l2 ≤ v ∧ v ≤ h2) : n2 b L l1 h1 l2 h2 p = .inr (u, v, p + 1 + (nm u ++ [32] ++ nm v).length) := by
  obtain ⟨a1, a2⟩ := ha.app
  obtain ⟨a3, a4⟩ := a1.app
  have e4 := a4 0 (by decide)
  have e4 : b (p + 1 + (nm u).length + 0) = 32 := e4
  rw [Int.add_zero] at e4
  have len : ((nm u ++ [32] ++ nm v).length : Int) = (nm u).length + 1 + (nm v).length := by simp only [List.length_append, List.length_cons, List.length_nil]; omega
  have len1 : ((nm u ++ [32]).length : Int) = (nm u).length + 1 := by simp only [List.length_append, List.length_cons, List.length_nil]; omega
  rw [len1, show p + 1 + ((nm u).length + 1 : Int) = p + 1 + (nm u).length + 1 by omega] at a2
  rw [len] at hn ⊢
  have n1 := num_nm (L := L) (lo := l1) (hi := h1) hs hu a3 (by rw [e4]; decide) r1
  have n2' := num_nm (L := L) (lo := l2) (hi := h2) e4 hv a2 (by rw [show p + 1 + ((nm u).length : Int) + 1 + (nm v).length = p + 1 + ((nm u).length + 1 + (nm v).length) by omega]; exact hn) r2
  unfold n2
  rw [n1]
  dsimp only
  rw [n2']
  dsimp only
  rw [show p + 1 + ((nm u).length : Int) + 1 + (nm v).length = p + 1 + ((nm u).length + 1 + (nm v).length) by omega]
theorem n3_nm {b : Int → Int} {L l1 h1 l2 h2 l3 h3 p u v w : Int} (hs : b p = 32) (hu : 0 ≤ u ∧ u < 100) (hv : 0 ≤ v ∧ v < 100) (hw : 0 ≤ w ∧ w < 100) (ha : At b (p + 1) (nm u ++ [32] ++ nm v ++ [32] ++ nm w)) (hn : ¬ isDg (b (p + 1 + (nm u ++ [32] ++ nm v ++ [32] ++ nm w).length))) (r1 : l1 ≤ u ∧ u ≤ h1) (r2 : l2 ≤ v ∧ v ≤ h2) (r3 : l3 ≤ w ∧ w ≤ h3) : n3 b L l1 h1 l2 h2 l3 h3 p = .inr (u, v, w, p + 1 + (nm u ++ [32] ++ nm v ++ [32] ++ nm w).length) := by
  obtain ⟨b1, b2⟩ := ha.app
  obtain ⟨b3, b4⟩ := b1.app
  obtain ⟨a1, a2⟩ := b3.app
  obtain ⟨a3, a4⟩ := a1.app
  have e4 := a4 0 (by decide)
  have e4 : b (p + 1 + (nm u).length + 0) = 32 := e4
  rw [Int.add_zero] at e4
  have len1 : ((nm u ++ [32]).length : Int) = (nm u).length + 1 := by simp only [List.length_append, List.length_cons, List.length_nil]; omega
  have len2 : ((nm u ++ [32] ++ nm v).length : Int) = (nm u).length + 1 + (nm v).length := by simp only [List.length_append, List.length_cons, List.length_nil]; omega
  have len3 : ((nm u ++ [32] ++ nm v ++ [32]).length : Int) = (nm u).length + 1 + (nm v).length + 1 := by simp only [List.length_append, List.length_cons, List.length_nil]; omega
  have len : ((nm u ++ [32] ++ nm v ++ [32] ++ nm w).length : Int) = (nm u).length + 1 + (nm v).length + 1 + (nm w).length := by simp only [List.length_append, List.length_cons, List.length_nil]; omega
  rw [len1, show p + 1 + ((nm u).length + 1 : Int) = p + 1 + (nm u).length + 1 by omega] at a2
  have e6 := b4 0 (by decide)
  have e6 : b (p + 1 + (nm u ++ [32] ++ nm v).length + 0) = 32 := e6
  rw [Int.add_zero, len2, show p + 1 + ((nm u).length + 1 + (nm v).length : Int) = p + 1 + (nm u).length + 1 + (nm v).length by omega] at e6
  rw [len3, show p + 1 + ((nm u).length + 1 + (nm v).length + 1 : Int) = p + 1 + (nm u).length + 1 + (nm v).length + 1 by omega] at b2
  rw [len] at hn ⊢
  have n1 := num_nm (L := L) (lo := l1) (hi := h1) hs hu a3 (by rw [e4]; decide) r1
  have n2' := num_nm (L := L) (lo := l2) (hi := h2) e4 hv a2 (by rw [e6]; decide) r2
  have n3' := num_nm (L := L) (lo := l3) (hi := h3) e6 hw b2 (by rw [show p + 1 + ((nm u).length : Int) + 1 + (nm v).length + 1 + (nm w).length = p + 1 + ((nm u).length + 1 + (nm v).length + 1 + (nm w).length) by omega]; exact hn) r3
  unfold n3
  rw [n1]
  dsimp only
  rw [n2']
  dsimp only
  rw [n3']
  dsimp only
  rw [show p + 1 + ((nm u).length : Int) + 1 + (nm v).length + 1 + (nm w).length = p + 1 + ((nm u).length + 1 + (nm v).length + 1 + (nm w).length) by omega]
/-- words -/
theorem wdAt {b : Int → Int} {L p : Int} {wd : List Int} (ha : At b p wd) (hw : ∀ c ∈ wd, isLt c) (h0 : 0 < wd.length) (h6 : wd.length < 600) (hn : ¬ isLt (b (p + wd.length))) : tS b p = p ∧ tE b L p = p + wd.length := by
  have hl : ∀ i : Nat, i < wd.length → isLt (b (p + i)) := fun i hi => by rw [ha i hi]; exact hw _ (getD_mem hi)
  have l0 := hl 0 h0
  have l0 : isLt (b (p + 0)) := l0
  rw [Int.add_zero] at l0
  refine ⟨tS_0 (by unfold isLt at l0; omega), ?_⟩
  unfold tE
  rw [if_pos l0]
  exact scn_run _ 601 _ (by omega) hl hn
theorem wlens : zlen 1000100 = 5 ∧ zlen 1000101 = 4 ∧ zlen 1000102 = 7 ∧ zlen 1000103 = 6 ∧ zlen 1000104 = 6 := by decide +kernel
theorem wchs : (∀ k : Nat, k < 5 → zKC 1000200 k = ([114, 117, 108, 101, 115] : List Int).getD k 0) ∧ (∀ k : Nat, k < 4 → zKC 1000201 k = ([119, 97, 108, 108] : List Int).getD k 0) ∧ (∀ k : Nat, k < 7 → zKC 1000202 k = ([104, 97, 114, 110, 101, 115, 115] : List Int).getD k 0) ∧ (∀ k : Nat, k < 6 → zKC 1000203 k = ([109, 101, 109, 98, 101, 114] : List Int).getD k 0) ∧ (∀ k : Nat, k < 6 → zKC 1000204 k = ([99, 111, 117, 114, 115, 101] : List Int).getD k 0) := by decide +kernel
section WK
variable {b : Int → Int} {p : Int}
theorem isWd_of {w : Nat} {n : Nat} {l : List Int} (hz : zlen w = n) (hc : ∀ k : Nat, k < n → zKC (w + 100) k = l.getD k 0) (hl : l.length = n) (ha : At b p l) : isWd b p (p + l.length) w := by
  refine ⟨by rw [hz, hl]; omega, fun k hk => ?_⟩
  rw [hz] at hk
  have hk : k < n := by simpa using hk
  rw [ha k (by omega), hc k hk]
theorem wK_rules (ha : At b p [114, 117, 108, 101, 115]) : wK b p (p + 5) = 0 := by
  unfold wK
  rw [if_pos (show isWd b p (p + 5) 1000100 from isWd_of (n := 5) wlens.1 wchs.1 rfl ha)]
theorem notWd {w : Nat} {e : Int} {n : Int} (hz : zlen w = n) (h : e - p ≠ n) : ¬ isWd b p e w := fun q => h (by rw [← hz]; exact q.1)
theorem wK_wall (ha : At b p [119, 97, 108, 108]) : wK b p (p + 4) = 1 := by
  unfold wK
  rw [if_neg (notWd wlens.1 (by omega)), if_pos (show isWd b p (p + 4) 1000101 from isWd_of (n := 4) wlens.2.1 wchs.2.1 rfl ha)]
theorem wK_harn (ha : At b p [104, 97, 114, 110, 101, 115, 115]) : wK b p (p + 7) = 2 := by
  unfold wK
  rw [if_neg (notWd wlens.1 (by omega)), if_neg (notWd wlens.2.1 (by omega)), if_pos (show isWd b p (p + 7) 1000102 from isWd_of (n := 7) wlens.2.2.1 wchs.2.2.1 rfl ha)]
theorem wK_memb (ha : At b p [109, 101, 109, 98, 101, 114]) : wK b p (p + 6) = 3 := by
  unfold wK
  rw [if_neg (notWd wlens.1 (by omega)), if_neg (notWd wlens.2.1 (by omega)), if_neg (notWd wlens.2.2.1 (by omega)), if_pos (show isWd b p (p + 6) 1000103 from isWd_of (n := 6) wlens.2.2.2.1 wchs.2.2.2.1 rfl ha)]
theorem wK_cour (ha : At b p [99, 111, 117, 114, 115, 101]) : wK b p (p + 6) = 4 := by
  have n3 : ¬ isWd b p (p + 6) 1000103 := fun q => by
    have h1 := q.2 0 (by rw [wlens.2.2.2.1]; decide)
    have h2 := ha 0 (by decide)
    rw [h2, show (1000103 + 100 : Nat) = 1000203 from rfl, wchs.2.2.2.1 0 (by decide)] at h1
    exact absurd h1 (by decide)
  unfold wK
  rw [if_neg (notWd wlens.1 (by omega)), if_neg (notWd wlens.2.1 (by omega)), if_neg (notWd wlens.2.2.1 (by omega)), if_neg n3, if_pos (show isWd b p (p + 6) 1000104 from isWd_of (n := 6) wlens.2.2.2.2 wchs.2.2.2.2 rfl ha)]
end WK
