set_option maxRecDepth 20000
theorem rup_self {r : Row} {k v : Int} (h : r k = v) : rup r k v = r := by
  funext j
  rw [rup_at]
  split
  · rename_i c; rw [c, h]
  · rfl
def HStp.cn (S : HStp) (i j m c : Int) : HStp := (S.1, (i, j, m, c), S.2.2)
theorem cn_all (S : HStp) : S.cn S.nw S.nh S.nm S.nc = S := rfl
section CN
variable {S : HStp} {i j m c : Int}
theorem row_wall (h : 0 ≤ i ∧ i < 8) : wallR (rowS (S.cn i j m c)) (S.w i 0) (S.w i 1) (S.w i 2) = rowS (S.cn (i + 1) j m c) := by
  have ec : rowS (S.cn i j m c) 4 = i := rfl
  have e0 : rowS (S.cn i j m c) (5 + 4 * i + 0) = S.w i 0 := by
    rw [rowS_w _ (by omega) (by omega)]
    rfl
  have e1 : rowS (S.cn i j m c) (5 + 4 * i + 1) = S.w i 1 := by
    rw [rowS_w _ (by omega) (by omega)]
    rfl
  have e2 : rowS (S.cn i j m c) (5 + 4 * i + 2) = S.w i 2 := by
    rw [rowS_w _ (by omega) (by omega)]
    rfl
  have e3 : rowS (S.cn i j m c) (5 + 4 * i + 3) = S.w i 2 := by
    rw [rowS_w _ (by omega) (by omega)]
    rfl
  unfold wallR
  rw [ec]
  rw [rup_self e0, rup_self e1, rup_self e2, rup_self e3]
  funext p
  rw [rup_at]
  by_cases q : p = 4
  · rw [if_pos q, q]; rfl
  · rw [if_neg q]
    unfold rowS
    simp only [if_neg q]
    rfl
theorem row_harn (h : 0 ≤ j ∧ j < 15) : harnR (rowS (S.cn i j m c)) (S.h j 0) (S.h j 1) = rowS (S.cn i (j + 1) m c) := by
  have ec : rowS (S.cn i j m c) 470 = j := rfl
  have e0 : rowS (S.cn i j m c) (471 + 5 * j + 0) = S.h j 0 := by
    rw [rowS_h _ (by omega) (by omega)]
    rfl
  have e1 : rowS (S.cn i j m c) (471 + 5 * j + 1) = S.h j 1 := by
    rw [rowS_h _ (by omega) (by omega)]
    rfl
  have e2 : rowS (S.cn i j m c) (471 + 5 * j + 2) = 0 := by
    rw [rowS_h _ (by omega) (by omega)]
    rfl
  have e3 : rowS (S.cn i j m c) (471 + 5 * j + 3) = 0 := by
    rw [rowS_h _ (by omega) (by omega)]
    rfl
  have e4 : rowS (S.cn i j m c) (471 + 5 * j + 4) = 0 := by
    rw [rowS_h _ (by omega) (by omega)]
    rfl
  unfold harnR
  rw [ec]
  rw [rup_self e0, rup_self e1, rup_self e2, rup_self e3, rup_self e4]
  funext p
  rw [rup_at]
  by_cases q : p = 470
  · rw [if_pos q, q]; rfl
  · rw [if_neg q]
    unfold rowS
    simp only [if_neg q]
    rfl
theorem row_memb (h : 0 ≤ m ∧ m < 12) : membR (rowS (S.cn i j m c)) (S.m m 0) (S.m m 1) = rowS (S.cn i j (m + 1) c) := by
  have ec : rowS (S.cn i j m c) 546 = m := rfl
  have e0 : rowS (S.cn i j m c) (547 + 6 * m + 0) = S.m m 0 := by
    rw [rowS_m _ (by omega) (by omega)]
    rfl
  have e1 : rowS (S.cn i j m c) (547 + 6 * m + 1) = S.m m 1 := by
    rw [rowS_m _ (by omega) (by omega)]
    rfl
  have e2 : rowS (S.cn i j m c) (547 + 6 * m + 2) = 0 := by
    rw [rowS_m _ (by omega) (by omega)]
    rfl
  have e3 : rowS (S.cn i j m c) (547 + 6 * m + 3) = -1 := by
    rw [rowS_m _ (by omega) (by omega)]
    rfl
  have e4 : rowS (S.cn i j m c) (547 + 6 * m + 4) = -1 := by
    rw [rowS_m _ (by omega) (by omega)]
    rfl
  have e5 : rowS (S.cn i j m c) (547 + 6 * m + 5) = 0 := by
    rw [rowS_m _ (by omega) (by omega)]
    rfl
  unfold membR
  rw [ec]
  rw [rup_self e0, rup_self e1, rup_self e2, rup_self e3, rup_self e4, rup_self e5]
  funext p
  rw [rup_at]
  by_cases q : p = 546
  · rw [if_pos q, q]; rfl
  · rw [if_neg q]
    unfold rowS
    simp only [if_neg q]
    rfl
theorem row_cour (h : 0 ≤ c ∧ c < 8) : courR (rowS (S.cn i j m c)) (S.c c 0) (S.c c 1) (S.c c 2) = rowS (S.cn i j m (c + 1)) := by
  have ec : rowS (S.cn i j m c) 619 = c := rfl
  have e0 : rowS (S.cn i j m c) (620 + 3 * c + 0) = S.c c 0 := by
    rw [rowS_c _ (by omega) (by omega)]
    rfl
  have e1 : rowS (S.cn i j m c) (620 + 3 * c + 1) = S.c c 1 := by
    rw [rowS_c _ (by omega) (by omega)]
    rfl
  have e2 : rowS (S.cn i j m c) (620 + 3 * c + 2) = S.c c 2 := by
    rw [rowS_c _ (by omega) (by omega)]
    rfl
  unfold courR
  rw [ec]
  rw [rup_self e0, rup_self e1, rup_self e2]
  funext p
  rw [rup_at]
  by_cases q : p = 619
  · rw [if_pos q, q]; rfl
  · rw [if_neg q]
    unfold rowS
    simp only [if_neg q]
    rfl
/-- the class's draft before -/
def r0S (S : HStp) : Row := rup (rup (rup (rowS (S.cn 0 0 0 0)) 0 20) 1 2) 2 50
theorem R0_S : R0 (r0S S) := ⟨rfl, rfl, rfl, rfl, rfl, rfl, rfl, rfl, rfl, rfl⟩
theorem row_rules : rulesR (r0S S) S.tr S.st S.we = rowS (S.cn 0 0 0 0) := by
  unfold rulesR r0S
  funext p
  simp only [rup_at]
  by_cases c2 : p = 2
  · rw [if_pos c2, c2]; rfl
  · rw [if_neg c2, if_neg c2]
    by_cases c1 : p = 1
    · rw [if_pos c1, c1]; rfl
    · rw [if_neg c1, if_neg c1]
      by_cases c0 : p = 0
      · rw [if_pos c0, c0]; rfl
      · rw [if_neg c0, if_neg c0]
end CN
section TX
variable {b : Int → Int} {L : Int} {S : HStp}
theorem nd_wall (k : Int) (l : List Int) : ¬ isDg ((txW S k ++ l).getD 0 0) := by
  unfold txW tx3
  rw [show (1000108 : Nat) = 1000108 from rfl, sch_v.2.2.1]
  show ¬ isDg 59
  decide
theorem ndF_wall {l : List Int} (hl : ¬ isDg (l.getD 0 0)) : ∀ (n : Nat) (k : Int), ¬ isDg ((rpF (txW S) k n ++ l).getD 0 0)
  | 0, _ => hl
  | n + 1, k => by
    show ¬ isDg (((txW S k ++ rpF (txW S) (k + 1) n) ++ l).getD 0 0)
    rw [List.append_assoc]
    exact nd_wall k _
theorem go_wall (h : okD' S) (hL : ∀ k, L ≤ k → b k = 0) {l : List Int} (hl : ¬ isDg (l.getD 0 0)) : ∀ (n N : Nat) (i j m c q : Int), 0 ≤ i → i + n ≤ S.nw → At0 b q (rpF (txW S) i n ++ l) → aft b L (N + n) q (rowS (S.cn i j m c)) 1 = aft b L N (q + (rpF (txW S) i n).length) (rowS (S.cn (i + n) j m c)) 1 ∧ At0 b (q + (rpF (txW S) i n).length) l
  | 0, N, i, j, m, c, q, h0, h1, ha => by
    have e : q + ((rpF (txW S) i 0).length : Int) = q := by show q + 0 = q; omega
    have e2 : i + ((0 : Nat) : Int) = i := by omega
    rw [e, e2]
    exact ⟨rfl, ha⟩
  | n + 1, N, i, j, m, c, q, h0, h1, ha => by
    have hk := h.2.2.2.1
    have k := h.2.2.2.2.2.2.2.1 i
    have ha : At0 b q ((txW S i ++ rpF (txW S) (i + 1) n) ++ l) := ha
    rw [List.append_assoc] at ha
    obtain ⟨a1, a2⟩ := aft_wall (h := 1) (n := N + n) (r := rowS (S.cn i j m c)) hL ha (ndF_wall hl n (i + 1)) ⟨by omega, by omega⟩ ⟨by omega, by omega⟩ ⟨by omega, by omega⟩ (by omega) (by omega) (by omega) (show i < 8 by omega)
    rw [row_wall ⟨h0, by omega⟩] at a1
    obtain ⟨b1, b2⟩ := go_wall h hL hl n N _ _ _ _ _ (by omega) (by omega) a2
    have e : q + ((rpF (txW S) i (n + 1)).length : Int) = q + ((txW S i).length : Int) + (rpF (txW S) (i + 1) n).length := by
      show q + (((txW S i) ++ rpF (txW S) (i + 1) n).length : Int) = _
      rw [List.length_append]
      omega
    have e2 : i + ((n + 1 : Nat) : Int) = i + 1 + n := by omega
    rw [e, e2]
    exact ⟨a1.trans b1, b2⟩
theorem nd_harn (k : Int) (l : List Int) : ¬ isDg ((txH S k ++ l).getD 0 0) := by
  unfold txH tx2
  rw [show (1000109 : Nat) = 1000109 from rfl, sch_v.2.2.2.1]
  show ¬ isDg 32
  decide
theorem ndF_harn {l : List Int} (hl : ¬ isDg (l.getD 0 0)) : ∀ (n : Nat) (k : Int), ¬ isDg ((rpF (txH S) k n ++ l).getD 0 0)
  | 0, _ => hl
  | n + 1, k => by
    show ¬ isDg (((txH S k ++ rpF (txH S) (k + 1) n) ++ l).getD 0 0)
    rw [List.append_assoc]
    exact nd_harn k _
theorem go_harn (h : okD' S) (hL : ∀ k, L ≤ k → b k = 0) {l : List Int} (hl : ¬ isDg (l.getD 0 0)) : ∀ (n N : Nat) (i j m c q : Int), 0 ≤ j → j + n ≤ S.nh → At0 b q (rpF (txH S) j n ++ l) → aft b L (N + n) q (rowS (S.cn i j m c)) 1 = aft b L N (q + (rpF (txH S) j n).length) (rowS (S.cn i (j + n) m c)) 1 ∧ At0 b (q + (rpF (txH S) j n).length) l
  | 0, N, i, j, m, c, q, h0, h1, ha => by
    have e : q + ((rpF (txH S) j 0).length : Int) = q := by show q + 0 = q; omega
    have e2 : j + ((0 : Nat) : Int) = j := by omega
    rw [e, e2]
    exact ⟨rfl, ha⟩
  | n + 1, N, i, j, m, c, q, h0, h1, ha => by
    have hk := h.2.2.2.2.1
    have k := h.2.2.2.2.2.2.2.2.1 j
    have ha : At0 b q ((txH S j ++ rpF (txH S) (j + 1) n) ++ l) := ha
    rw [List.append_assoc] at ha
    obtain ⟨a1, a2⟩ := aft_harn (h := 1) (n := N + n) (r := rowS (S.cn i j m c)) hL ha (ndF_harn hl n (j + 1)) ⟨by omega, by omega⟩ ⟨by omega, by omega⟩ (by omega) (by omega) (show j < 15 by omega)
    rw [row_harn ⟨h0, by omega⟩] at a1
    obtain ⟨b1, b2⟩ := go_harn h hL hl n N _ _ _ _ _ (by omega) (by omega) a2
    have e : q + ((rpF (txH S) j (n + 1)).length : Int) = q + ((txH S j).length : Int) + (rpF (txH S) (j + 1) n).length := by
      show q + (((txH S j) ++ rpF (txH S) (j + 1) n).length : Int) = _
      rw [List.length_append]
      omega
    have e2 : j + ((n + 1 : Nat) : Int) = j + 1 + n := by omega
    rw [e, e2]
    exact ⟨a1.trans b1, b2⟩
theorem nd_memb (k : Int) (l : List Int) : ¬ isDg ((txM S k ++ l).getD 0 0) := by
  unfold txM tx2
  rw [show (1000110 : Nat) = 1000110 from rfl, sch_v.2.2.2.2.1]
  show ¬ isDg 59
  decide
theorem ndF_memb {l : List Int} (hl : ¬ isDg (l.getD 0 0)) : ∀ (n : Nat) (k : Int), ¬ isDg ((rpF (txM S) k n ++ l).getD 0 0)
  | 0, _ => hl
  | n + 1, k => by
    show ¬ isDg (((txM S k ++ rpF (txM S) (k + 1) n) ++ l).getD 0 0)
    rw [List.append_assoc]
    exact nd_memb k _
theorem go_memb (h : okD' S) (hL : ∀ k, L ≤ k → b k = 0) {l : List Int} (hl : ¬ isDg (l.getD 0 0)) : ∀ (n N : Nat) (i j m c q : Int), 0 ≤ m → m + n ≤ S.nm → At0 b q (rpF (txM S) m n ++ l) → aft b L (N + n) q (rowS (S.cn i j m c)) 1 = aft b L N (q + (rpF (txM S) m n).length) (rowS (S.cn i j (m + n) c)) 1 ∧ At0 b (q + (rpF (txM S) m n).length) l
  | 0, N, i, j, m, c, q, h0, h1, ha => by
    have e : q + ((rpF (txM S) m 0).length : Int) = q := by show q + 0 = q; omega
    have e2 : m + ((0 : Nat) : Int) = m := by omega
    rw [e, e2]
    exact ⟨rfl, ha⟩
  | n + 1, N, i, j, m, c, q, h0, h1, ha => by
    have hk := h.2.2.2.2.2.1
    have k := h.2.2.2.2.2.2.2.2.2.1 m
    have ha : At0 b q ((txM S m ++ rpF (txM S) (m + 1) n) ++ l) := ha
    rw [List.append_assoc] at ha
    obtain ⟨a1, a2⟩ := aft_memb (h := 1) (n := N + n) (r := rowS (S.cn i j m c)) hL ha (ndF_memb hl n (m + 1)) ⟨by omega, by omega⟩ ⟨by omega, by omega⟩ (by omega) (by omega) (show m < 12 by omega)
    rw [row_memb ⟨h0, by omega⟩] at a1
    obtain ⟨b1, b2⟩ := go_memb h hL hl n N _ _ _ _ _ (by omega) (by omega) a2
    have e : q + ((rpF (txM S) m (n + 1)).length : Int) = q + ((txM S m).length : Int) + (rpF (txM S) (m + 1) n).length := by
      show q + (((txM S m) ++ rpF (txM S) (m + 1) n).length : Int) = _
      rw [List.length_append]
      omega
    have e2 : m + ((n + 1 : Nat) : Int) = m + 1 + n := by omega
    rw [e, e2]
    exact ⟨a1.trans b1, b2⟩
theorem nd_cour (k : Int) (l : List Int) : ¬ isDg ((txC S k ++ l).getD 0 0) := by
  unfold txC tx3
  rw [show (1000111 : Nat) = 1000111 from rfl, sch_v.2.2.2.2.2]
  show ¬ isDg 59
  decide
theorem ndF_cour {l : List Int} (hl : ¬ isDg (l.getD 0 0)) : ∀ (n : Nat) (k : Int), ¬ isDg ((rpF (txC S) k n ++ l).getD 0 0)
  | 0, _ => hl
  | n + 1, k => by
    show ¬ isDg (((txC S k ++ rpF (txC S) (k + 1) n) ++ l).getD 0 0)
    rw [List.append_assoc]
    exact nd_cour k _
theorem go_cour (h : okD' S) (hL : ∀ k, L ≤ k → b k = 0) {l : List Int} (hl : ¬ isDg (l.getD 0 0)) : ∀ (n N : Nat) (i j m c q : Int), 0 ≤ c → c + n ≤ S.nc → At0 b q (rpF (txC S) c n ++ l) → aft b L (N + n) q (rowS (S.cn i j m c)) 1 = aft b L N (q + (rpF (txC S) c n).length) (rowS (S.cn i j m (c + n))) 1 ∧ At0 b (q + (rpF (txC S) c n).length) l
  | 0, N, i, j, m, c, q, h0, h1, ha => by
    have e : q + ((rpF (txC S) c 0).length : Int) = q := by show q + 0 = q; omega
    have e2 : c + ((0 : Nat) : Int) = c := by omega
    rw [e, e2]
    exact ⟨rfl, ha⟩
  | n + 1, N, i, j, m, c, q, h0, h1, ha => by
    have hk := h.2.2.2.2.2.2.1
    have k := h.2.2.2.2.2.2.2.2.2.2 c
    have ha : At0 b q ((txC S c ++ rpF (txC S) (c + 1) n) ++ l) := ha
    rw [List.append_assoc] at ha
    obtain ⟨a1, a2⟩ := aft_cour (h := 1) (n := N + n) (r := rowS (S.cn i j m c)) hL ha (ndF_cour hl n (c + 1)) ⟨by omega, by omega⟩ ⟨by omega, by omega⟩ ⟨by omega, by omega⟩ (by omega) (by omega) (by omega) (show c < 8 by omega)
    rw [row_cour ⟨h0, by omega⟩] at a1
    obtain ⟨b1, b2⟩ := go_cour h hL hl n N _ _ _ _ _ (by omega) (by omega) a2
    have e : q + ((rpF (txC S) c (n + 1)).length : Int) = q + ((txC S c).length : Int) + (rpF (txC S) (c + 1) n).length := by
      show q + (((txC S c) ++ rpF (txC S) (c + 1) n).length : Int) = _
      rw [List.length_append]
      omega
    have e2 : c + ((n + 1 : Nat) : Int) = c + 1 + n := by omega
    rw [e, e2]
    exact ⟨a1.trans b1, b2⟩
/-- the text of a setup gives the setup back -/
theorem prs_txt (h : okD' S) (hL : ∀ k, L ≤ k → b k = 0) (ha : At0 b 0 (txt S)) (hl : ((txt S).length : Int) = L) : prs b L 601 0 (r0S S) 0 = .inr (rowS S) := by
  obtain ⟨k1, k2, k3, k4, k5, k6, k7, -⟩ := id h
  have e : txt S = txR S ++ (rpF (txW S) 0 S.nw.toNat ++ (rpF (txH S) 0 S.nh.toNat ++ (rpF (txM S) 0 S.nm.toNat ++ (rpF (txC S) 0 S.nc.toNat ++ [])))) := by
    unfold txt
    simp only [rp_F, List.append_assoc, List.append_nil]
  rw [e] at ha
  have d4 : ¬ isDg (([] : List Int).getD 0 0) := by decide
  have d3 := ndF_cour (S := S) d4 S.nc.toNat 0
  have d2 := ndF_memb (S := S) d3 S.nm.toNat 0
  have d1 := ndF_harn (S := S) d2 S.nh.toNat 0
  have d0 := ndF_wall (S := S) d1 S.nw.toNat 0
  obtain ⟨a1, a2⟩ := ha.app
  obtain ⟨K, hK⟩ : ∃ K, 600 = K + S.nc.toNat + S.nm.toNat + S.nh.toNat + S.nw.toNat := ⟨600 - (S.nc.toNat + S.nm.toNat + S.nh.toNat + S.nw.toNat), by omega⟩
  obtain ⟨e1, b1⟩ := go_wall h hL d1 S.nw.toNat (K + S.nc.toNat + S.nm.toNat + S.nh.toNat) 0 0 0 0 _ (Int.le_refl _) (by omega) a2
  obtain ⟨e2, b2⟩ := go_harn h hL d2 S.nh.toNat (K + S.nc.toNat + S.nm.toNat) _ 0 0 0 _ (Int.le_refl _) (by omega) b1
  obtain ⟨e3, b3⟩ := go_memb h hL d3 S.nm.toNat (K + S.nc.toNat) _ _ 0 0 _ (Int.le_refl _) (by omega) b2
  obtain ⟨e4, b4⟩ := go_cour h hL d4 S.nc.toNat K _ _ _ 0 _ (Int.le_refl _) (by omega) b3
  have len : (((txR S).length : Int) + (rpF (txW S) 0 S.nw.toNat).length + (rpF (txH S) 0 S.nh.toNat).length + (rpF (txM S) 0 S.nm.toNat).length + (rpF (txC S) 0 S.nc.toNat).length) = L := by
    rw [← hl, e]
    simp only [List.length_append, List.length_nil]
    omega
  have hz : 0 + ((txR S).length : Int) + (rpF (txW S) 0 S.nw.toNat).length + (rpF (txH S) 0 S.nh.toNat).length + (rpF (txM S) 0 S.nm.toNat).length + (rpF (txC S) 0 S.nc.toNat).length = L := by omega
  have fin := e1.trans (e2.trans (e3.trans e4))
  rw [hz, aft_e (hL L (Int.le_refl _))] at fin
  have hc : S.cn (0 + (S.nw.toNat : Int)) (0 + (S.nh.toNat : Int)) (0 + (S.nm.toNat : Int)) (0 + (S.nc.toNat : Int)) = S := by
    rw [show (0 + (S.nw.toNat : Int)) = S.nw by omega, show (0 + (S.nh.toNat : Int)) = S.nh by omega, show (0 + (S.nm.toNat : Int)) = S.nm by omega, show (0 + (S.nc.toNat : Int)) = S.nc by omega]
    rfl
  rw [hc] at fin
  -- the rules
  have eR : txR S = [114, 117, 108, 101, 115] ++ [32] ++ (nm S.tr ++ [32] ++ nm S.st ++ [32] ++ nm S.we) := by
    unfold txR
    rw [sch_v.1, sch_v.2.1]
    simp only [List.append_assoc]
  have lR : ((txR S).length : Int) = 6 + (nm S.tr ++ [32] ++ nm S.st ++ [32] ++ nm S.we).length := by
    rw [eR]
    simp only [List.length_append, List.length_cons, List.length_nil]
    omega
  have zh := a2.hd
  rw [eR] at a1
  obtain ⟨c1, c3⟩ := a1.app
  obtain ⟨c1, c2⟩ := c1.app
  have c2 : At b (0 + 5) [32] := c2
  have c3 : At b (0 + 6) (nm S.tr ++ [32] ++ nm S.st ++ [32] ++ nm S.we) := c3
  have as : ∀ N : Int, 0 + 5 + 1 + N = 0 + (6 + N) := fun N => by omega
  have t : tS b 0 = 0 := tS_0 (by rw [c1.hd]; decide)
  have st := stm_rules (L := L) (h := 0) (r := r0S S) t c1 c2.hd c3 (by
    rw [as, ← lR, zh]
    exact d0) (by omega) (by omega) (by omega) k1 (by omega) (by omega) rfl
  rw [as, ← lR, row_rules] at st
  have := prs_s (n := K + S.nc.toNat + S.nm.toNat + S.nh.toNat + S.nw.toNat) st
  rw [fin, ← hK] at this
  exact this
end TX
