set_option maxRecDepth 20000
/-! the invalid texts; a buffer that shows a text -/
def bT (l : List Int) (p : Int) : Int := if 0 ≤ p then l.getD p.toNat 0 else 0
def rP : Row := fun p => if p = 0 then 20 else if p = 1 then 2 else if p = 2 then 50 else 0
theorem R0_P : R0 rP := ⟨rfl, rfl, rfl, rfl, rfl, rfl, rfl, rfl, rfl, rfl⟩
def isAt (o : Int ⊕ Row) (x : Int) : Bool := match o with
  | .inl y => decide (y = x)
  | .inr _ => false
theorem isAt_e {o : Int ⊕ Row} {x : Int} (h : isAt o x = true) : o = .inl x := by
  cases o with
  | inl y => exact congrArg _ (of_decide_eq_true h)
  | inr r => cases h
def wrongL : List (Nat × Int) := [(1000129, 0), (1000130, 6), (1000131, 8), (1000132, 10), (1000133, 12), (1000134, 5), (1000135, 7), (1000136, 9), (1000137, 8), (1000138, 10), (1000139, 9), (1000140, 7), (1000141, 9), (1000142, 11), (1000143, 13), (1000144, 5), (1000145, 0), (1000146, 8), (1000147, 11)]
theorem wrong_ok : ∀ q ∈ wrongL, isAt (prs (bT (sch q.1)) (sch q.1).length 601 0 rP 0) q.2 = true := by decide +kernel
theorem bT_at {l : List Int} : At0 (bT l) 0 l := fun i => by
  unfold bT
  rw [if_pos (by omega), show (0 + (i : Int)).toNat = i by omega]
theorem bT_out {l : List Int} {k : Int} (h : (l.length : Int) ≤ k) : bT l k = 0 := by
  unfold bT
  split
  · rw [List.getD_eq_getElem?_getD, List.getElem?_eq_none (by omega)]
    rfl
  · rfl
theorem TXT_bT {l : List Int} (h : l.length ≤ 600) (h1 : ∀ c ∈ l, 1 ≤ c ∧ c ≤ 255) : TXT (bT l) l.length := by
  refine ⟨by omega, by omega, fun k hk => ?_, fun k a c => ?_⟩
  · rcases hk with hk | hk
    · unfold bT; rw [if_neg (by omega)]
    · exact bT_out hk
  · unfold bT
    rw [if_pos a]
    exact h1 _ (getD_mem (by omega))
theorem wrong_ch : ∀ q ∈ wrongL, (sch q.1).length ≤ 600 ∧ ∀ c ∈ sch q.1, 1 ≤ c ∧ c ≤ 255 := by decide +kernel
/-- the characters of a setup's text -/
theorem nm_1 {v : Int} (h : 0 ≤ v ∧ v < 100) : ∀ c ∈ nm v, 1 ≤ c ∧ c ≤ 127 := fun c hc => by have := nm_ch h c hc; omega
def chL (l : List Int) : Prop := ∀ c ∈ l, 1 ≤ c ∧ c ≤ 127
theorem chL.app {x y : List Int} (h1 : chL x) (h2 : chL y) : chL (x ++ y) := fun c hc => (List.mem_append.mp hc).elim (h1 c) (h2 c)
theorem sch_ch : chL (sch 1000105) ∧ chL (sch 1000106) ∧ chL (sch 1000108) ∧ chL (sch 1000109) ∧ chL (sch 1000110) ∧ chL (sch 1000111) ∧ chL [32] := by unfold chL; decide +kernel
theorem rp_ch {f : Int → List Int} (h : ∀ k, chL (f k)) : ∀ n : Nat, chL (rp f n)
  | 0 => fun c hc => by cases hc
  | n + 1 => (rp_ch h n).app (h n)
theorem tx3_ch {k : Nat} {a c d : Int} (h : chL (sch k)) (ha : 0 ≤ a ∧ a < 100) (hc : 0 ≤ c ∧ c < 100) (hd : 0 ≤ d ∧ d < 100) : chL (tx3 k a c d) := ((((h.app (nm_1 ha)).app sch_ch.2.2.2.2.2.2).app (nm_1 hc)).app sch_ch.2.2.2.2.2.2).app (nm_1 hd)
theorem tx2_ch {k : Nat} {a c : Int} (h : chL (sch k)) (ha : 0 ≤ a ∧ a < 100) (hc : 0 ≤ c ∧ c < 100) : chL (tx2 k a c) := ((h.app (nm_1 ha)).app sch_ch.2.2.2.2.2.2).app (nm_1 hc)
theorem txt_ch {S : HStp} (h : okD' S) : chL (txt S) ∧ (txt S).length ≤ 600 := by
  obtain ⟨h1, h2, h3, h4, h5, h6, h7, hw, hh, hm, hc⟩ := h
  constructor
  · unfold txt
    refine ((((?_ : chL _).app ?_).app ?_).app ?_).app ?_
    · exact ((((sch_ch.1.app (nm_1 (by omega))).app sch_ch.2.1).app (nm_1 (by omega))).app sch_ch.2.1).app (nm_1 (by omega))
    · exact rp_ch (fun k => by have := hw k; exact tx3_ch sch_ch.2.2.1 (by omega) (by omega) (by omega)) _
    · exact rp_ch (fun k => by have := hh k; exact tx2_ch sch_ch.2.2.2.1 (by omega) (by omega)) _
    · exact rp_ch (fun k => by have := hm k; exact tx2_ch sch_ch.2.2.2.2.1 (by omega) (by omega)) _
    · exact rp_ch (fun k => by have := hc k; exact tx3_ch sch_ch.2.2.2.2.2.1 (by omega) (by omega) (by omega)) _
  · have a0 := txR_le S
    have a1 := rp_len (f := txW S) (fun k => txW_le S k) S.nw.toNat
    have a2 := rp_len (f := txH S) (fun k => txH_le S k) S.nh.toNat
    have a3 := rp_len (f := txM S) (fun k => txM_le S k) S.nm.toNat
    have a4 := rp_len (f := txC S) (fun k => txC_le S k) S.nc.toNat
    unfold txt
    simp only [List.length_append]
    omega
/-- four characters in a number, and its bytes -/
def w4 (a b c d : Int) : Int := zor (zshl (zor (zshl (zor (zshl (zor (zshl 0 8) a) 8) b) 8) c) 8) d
