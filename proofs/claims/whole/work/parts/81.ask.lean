/-! ASKS: what is left in THE TRACE, and what is answered -/
def lvC (M : Mem) (n : Nat) (b : Int32) : Mem := ms (ms M 28 n b) 27 1 (nI (n + 1))
def lvR (M : Mem) (n : Nat) (b : Int32) : Mem := ms (ms M 92 n b) 85 11 (nI (n + 1))
def lvsC (M : Mem) (n : Nat) : List Int32 → Mem
  | [] => M
  | b :: L => lvsC (lvC M n b) (n + 1) L
def lvsR (M : Mem) (n : Nat) : List Int32 → Mem
  | [] => M
  | b :: L => lvsR (lvR M n b) (n + 1) L
theorem lvsC_o : ∀ (L : List Int32) (M : Mem) (n k j : Nat), k ≠ 27 → k ≠ 28 → lvsC M n L k j = M k j
  | [], _, _, _, _, _, _ => rfl
  | b :: L, M, n, k, j, h1, h2 => by
    show lvsC (lvC M n b) (n + 1) L k j = M k j
    rw [lvsC_o L _ _ k j h1 h2]
    unfold lvC
    rw [ms_ne h1, ms_ne h2]
theorem lvsC_n : ∀ (L : List Int32) (M : Mem) (n : Nat), M 27 1 = nI n → lvsC M n L 27 1 = nI (n + L.length)
  | [], _, _, h => h
  | b :: L, M, n, h => by
    show lvsC (lvC M n b) (n + 1) L 27 1 = _
    rw [lvsC_n L _ _ (by unfold lvC; rw [ms_eq])]
    congr 1
    simp only [List.length_cons]
    omega
theorem lvsR_o : ∀ (L : List Int32) (M : Mem) (n k j : Nat), ¬ (k = 85 ∧ j = 11) → k ≠ 92 → lvsR M n L k j = M k j
  | [], _, _, _, _, _, _ => rfl
  | b :: L, M, n, k, j, h1, h2 => by
    show lvsR (lvR M n b) (n + 1) L k j = M k j
    rw [lvsR_o L _ _ k j h1 h2]
    unfold lvR
    rw [ms_app, if_neg h1, ms_ne h2]
theorem lvsR_n : ∀ (L : List Int32) (M : Mem) (n : Nat), M 85 11 = nI n → lvsR M n L 85 11 = nI (n + L.length)
  | [], _, _, h => h
  | b :: L, M, n, h => by
    show lvsR (lvR M n b) (n + 1) L 85 11 = _
    rw [lvsR_n L _ _ (by unfold lvR; rw [ms_eq])]
    congr 1
    simp only [List.length_cons]
    omega
/-- both TRACES alike -/
theorem lvs_tr : ∀ (L : List Int32) (M N : Mem) (n : Nat), (∀ i, i < n → M 28 i = N 92 i) → ∀ i, i < n + L.length → lvsC M n L 28 i = lvsR N n L 92 i
  | [], M, N, n, h, i, hi => h i (by simpa using hi)
  | b :: L, M, N, n, h, i, hi => by
    refine lvs_tr L (lvC M n b) (lvR N n b) (n + 1) (fun j hj => ?_) i (by simp only [List.length_cons] at hi; omega)
    unfold lvC lvR
    rw [ms_ne (a := 28) (k := 27) (by decide), ms_ne (a := 92) (k := 85) (by decide)]
    by_cases e : j = n
    · rw [e, ms_eq, ms_eq]
    · rw [ms_ne2 e, ms_ne2 e]
      exact h j (by omega)
section AK
variable {M : Mem}
theorem W1_leave {n : Nat} {b : Int32} {Q : Mem → Prop} (hn : n < 16) (h : M 27 1 = nI n) (q : Q (lvC M n b)) : w_X1_leave M b Q := by
  unfold w_X1_leave
  rw [h, ix_nat (by omega)]
  refine ⟨fun e => absurd e (nI_ge (a := n) (b := 16) hn (by decide)), fun _ => ⟨vp_in_nI hn (by decide), fun M3 e3 v4 e4 M5 e5 => ?_⟩⟩
  have k : M3 27 1 = nI n := by rw [e3, ms_ne (by decide), h]
  rw [k, nI_1] at e4
  rw [e5, e4, e3]
  exact q
theorem W9_begin {n : Nat} {b : Int32} {Q : Mem → Prop} (hn : n < 16) (h : M 85 11 = nI n) (q : Q (lvR M n b)) : w_X9_begin M b Q := by
  unfold w_X9_begin
  rw [h, ix_nat (by omega)]
  refine ⟨fun e => absurd e (nI_ge (a := n) (b := 16) hn (by decide)), fun _ => ⟨vp_in_nI hn (by decide), fun M3 e3 v4 e4 M5 e5 => ?_⟩⟩
  have k : M3 85 11 = nI n := by rw [e3, ms_ne (by decide), h]
  rw [k, nI_1] at e4
  rw [e5, e4, e3]
  exact q
end AK
def GV (A : Tn) (p f d : Nat) (b : Int32) (L : List Int32) (v : Int32) : Prop := ∀ (M : Mem) (n e : Nat) (Q : Int32 → Mem → Prop), RC M 41 A → M 27 1 = nI n → n + L.length ≤ 16 → e + d ≤ 16 → Q v (lvsC M n L) → (w_AG f).2 41 M (nI p) b (nI e) Q
def AV (A : Tn) (p f d : Nat) (b : Int32) (L : List Int32) (v : Int32) : Prop := ∀ (M : Mem) (n e : Nat) (Q : Int32 → Mem → Prop), RC M 41 A → M 27 1 = nI n → n + L.length ≤ 16 → e + d ≤ 16 → Q v (lvsC M n L) → (w_AG f).1 41 M (nI p) b (nI e) Q
section AG2
variable {A : Tn} {p f d : Nat} {L : List Int32} {v : Int32}
theorem RC_lvs {M : Mem} {n : Nat} (h : RC M 41 A) : RC (lvsC M n L) 41 A := RC_fr h (fun f j hf => lvsC_o L M n _ _ (by omega) (by omega))
theorem dep_le {e d : Nat} (h : e + d ≤ 16) : nI e ≤ 16 := nI_le (b := 16) (by omega) (by decide)
theorem G10 (hV : V A) (hp : p < np A) : GV A p (f + 1) d 10 [10] (nI (tsum A p)) := by
  intro M n e Q hR h27 hL he q
  refine ⟨fun _ => W1_leave (n := n) (by simp only [List.length_cons] at hL; omega) h27 ⟨fun _ => ?_, fun e => absurd e (by decide), fun e => absurd e (by decide), fun e => absurd e (by decide), fun e => absurd e (by decide), fun e => absurd e (by decide), fun e => absurd e (by decide), fun e => absurd e (by decide), fun e => absurd e (by decide), fun e => absurd e (by decide), fun e => absurd e (by decide), fun e => absurd e (by decide), fun e => absurd e (by decide), fun e => absurd e (by decide), fun e => absurd e (by decide), fun h _ _ _ _ _ _ _ _ _ _ _ _ _ _ => absurd rfl h⟩, fun z => absurd (dep_le he) z⟩
  exact W6_tsum (RC_lvs (L := [10]) hR) hV hp q
theorem G20  : GV A p (f + 1) d 20 [20] (nI p) := by
  intro M n e Q hR h27 hL he q
  refine ⟨fun _ => W1_leave (n := n) (by simp only [List.length_cons] at hL; omega) h27 ⟨fun e => absurd e (by decide), fun e => absurd e (by decide), fun e => absurd e (by decide), fun e => absurd e (by decide), fun e => absurd e (by decide), fun e => absurd e (by decide), fun e => absurd e (by decide), fun e => absurd e (by decide), fun e => absurd e (by decide), fun e => absurd e (by decide), fun _ => ?_, fun e => absurd e (by decide), fun e => absurd e (by decide), fun e => absurd e (by decide), fun e => absurd e (by decide), fun _ _ _ _ _ _ _ _ _ _ h _ _ _ _ => absurd rfl h⟩, fun z => absurd (dep_le he) z⟩
  exact q
theorem G21 (hV : V A) (hp : p < np A) : GV A p (f + 2) (d + 1) 21 [21, 20] (nI p + A 5 p) := by
  intro M n e Q hR h27 hL he q
  refine ⟨fun _ => W1_leave (n := n) (by simp only [List.length_cons] at hL; omega) h27 ⟨fun e => absurd e (by decide), fun e => absurd e (by decide), fun e => absurd e (by decide), fun e => absurd e (by decide), fun e => absurd e (by decide), fun e => absurd e (by decide), fun e => absurd e (by decide), fun e => absurd e (by decide), fun e => absurd e (by decide), fun e => absurd e (by decide), fun e => absurd e (by decide), fun _ => ?_, fun e => absurd e (by decide), fun e => absurd e (by decide), fun e => absurd e (by decide), fun _ _ _ _ _ _ _ _ _ _ _ h _ _ _ => absurd rfl h⟩, fun z => absurd (dep_le he) z⟩
  rw [nI_1]
  have hn := (V_np hV).2
  refine G20 (d := d) (lvC M n 21) (n + 1) (e + 1) _ (RC_lvs (L := [21]) hR) (by unfold lvC; rw [ms_eq]) (by simp only [List.length_cons, List.length_nil] at hL ⊢; omega) (by omega) ⟨vp_in_nI (by omega) (by decide), ?_⟩
  have k5 : lvsC (lvC M n 21) (n + 1) [20] (41 + 5) p = A 5 p := (RC_lvs (L := [21, 20]) (n := n) hR).2 5 p (rel_p (by decide) (by decide) hp)
  rw [ix_nat (by omega), k5]
  exact q
theorem G22 (h : GV A p f d 21 L v) : GV A p (f + 1) (d + 1) 22 (22 :: L) (v - 1000) := by
  intro M n e Q hR h27 hL he q
  refine ⟨fun _ => W1_leave (n := n) (by simp only [List.length_cons] at hL; omega) h27 ⟨fun e => absurd e (by decide), fun e => absurd e (by decide), fun e => absurd e (by decide), fun e => absurd e (by decide), fun e => absurd e (by decide), fun e => absurd e (by decide), fun e => absurd e (by decide), fun e => absurd e (by decide), fun e => absurd e (by decide), fun e => absurd e (by decide), fun e => absurd e (by decide), fun e => absurd e (by decide), fun _ => ?_, fun e => absurd e (by decide), fun e => absurd e (by decide), fun _ _ _ _ _ _ _ _ _ _ _ _ h _ _ => absurd rfl h⟩, fun z => absurd (dep_le he) z⟩
  rw [nI_1]
  exact h (lvC M n 22) (n + 1) (e + 1) _ (RC_lvs (L := [22]) hR) (by unfold lvC; rw [ms_eq]) (by simp only [List.length_cons] at hL; omega) (by omega) q
theorem G24 (h : GV A p f d 21 L v) : GV A p (f + 1) (d + 1) 24 (24 :: L) (2 * v) := by
  intro M n e Q hR h27 hL he q
  refine ⟨fun _ => W1_leave (n := n) (by simp only [List.length_cons] at hL; omega) h27 ⟨fun e => absurd e (by decide), fun e => absurd e (by decide), fun e => absurd e (by decide), fun e => absurd e (by decide), fun e => absurd e (by decide), fun e => absurd e (by decide), fun e => absurd e (by decide), fun e => absurd e (by decide), fun e => absurd e (by decide), fun e => absurd e (by decide), fun e => absurd e (by decide), fun e => absurd e (by decide), fun e => absurd e (by decide), fun e => absurd e (by decide), fun _ => ?_, fun _ _ _ _ _ _ _ _ _ _ _ _ _ _ h => absurd rfl h⟩, fun z => absurd (dep_le he) z⟩
  rw [nI_1]
  exact h (lvC M n 24) (n + 1) (e + 1) _ (RC_lvs (L := [24]) hR) (by unfold lvC; rw [ms_eq]) (by simp only [List.length_cons] at hL; omega) (by omega) q
theorem G12 (h : GV A p f d 11 L v) : GV A p (f + 1) (d + 1) 12 (12 :: L) (0 - v) := by
  intro M n e Q hR h27 hL he q
  refine ⟨fun _ => W1_leave (n := n) (by simp only [List.length_cons] at hL; omega) h27 ⟨fun e => absurd e (by decide), fun e => absurd e (by decide), fun _ => ?_, fun e => absurd e (by decide), fun e => absurd e (by decide), fun e => absurd e (by decide), fun e => absurd e (by decide), fun e => absurd e (by decide), fun e => absurd e (by decide), fun e => absurd e (by decide), fun e => absurd e (by decide), fun e => absurd e (by decide), fun e => absurd e (by decide), fun e => absurd e (by decide), fun e => absurd e (by decide), fun _ _ h _ _ _ _ _ _ _ _ _ _ _ _ => absurd rfl h⟩, fun z => absurd (dep_le he) z⟩
  rw [nI_1]
  exact h (lvC M n 12) (n + 1) (e + 1) _ (RC_lvs (L := [12]) hR) (by unfold lvC; rw [ms_eq]) (by simp only [List.length_cons] at hL; omega) (by omega) q
theorem G13 (h : GV A p f d 10 L v) : GV A p (f + 1) (d + 1) 13 (13 :: L) (v - 100) := by
  intro M n e Q hR h27 hL he q
  refine ⟨fun _ => W1_leave (n := n) (by simp only [List.length_cons] at hL; omega) h27 ⟨fun e => absurd e (by decide), fun e => absurd e (by decide), fun e => absurd e (by decide), fun _ => ?_, fun e => absurd e (by decide), fun e => absurd e (by decide), fun e => absurd e (by decide), fun e => absurd e (by decide), fun e => absurd e (by decide), fun e => absurd e (by decide), fun e => absurd e (by decide), fun e => absurd e (by decide), fun e => absurd e (by decide), fun e => absurd e (by decide), fun e => absurd e (by decide), fun _ _ _ h _ _ _ _ _ _ _ _ _ _ _ => absurd rfl h⟩, fun z => absurd (dep_le he) z⟩
  rw [nI_1]
  exact h (lvC M n 13) (n + 1) (e + 1) _ (RC_lvs (L := [13]) hR) (by unfold lvC; rw [ms_eq]) (by simp only [List.length_cons] at hL; omega) (by omega) q
theorem G14 (h : GV A p f d 13 L v) : GV A p (f + 1) (d + 1) 14 (14 :: L) (2 * v) := by
  intro M n e Q hR h27 hL he q
  refine ⟨fun _ => W1_leave (n := n) (by simp only [List.length_cons] at hL; omega) h27 ⟨fun e => absurd e (by decide), fun e => absurd e (by decide), fun e => absurd e (by decide), fun e => absurd e (by decide), fun _ => ?_, fun e => absurd e (by decide), fun e => absurd e (by decide), fun e => absurd e (by decide), fun e => absurd e (by decide), fun e => absurd e (by decide), fun e => absurd e (by decide), fun e => absurd e (by decide), fun e => absurd e (by decide), fun e => absurd e (by decide), fun e => absurd e (by decide), fun _ _ _ _ h _ _ _ _ _ _ _ _ _ _ => absurd rfl h⟩, fun z => absurd (dep_le he) z⟩
  rw [nI_1]
  exact h (lvC M n 14) (n + 1) (e + 1) _ (RC_lvs (L := [14]) hR) (by unfold lvC; rw [ms_eq]) (by simp only [List.length_cons] at hL; omega) (by omega) q
theorem G11 (hV : V A) (hp : p < np A) (h : AV A p (f + 1) d 1 L v) : GV A p (f + 2) (d + 1) 11 (11 :: 10 :: L) (nI (tsum A p) + v) := by
  intro M n e Q hR h27 hL he q
  refine ⟨fun _ => W1_leave (n := n) (by simp only [List.length_cons] at hL; omega) h27 ⟨fun e => absurd e (by decide), fun _ => ?_, fun e => absurd e (by decide), fun e => absurd e (by decide), fun e => absurd e (by decide), fun e => absurd e (by decide), fun e => absurd e (by decide), fun e => absurd e (by decide), fun e => absurd e (by decide), fun e => absurd e (by decide), fun e => absurd e (by decide), fun e => absurd e (by decide), fun e => absurd e (by decide), fun e => absurd e (by decide), fun e => absurd e (by decide), fun _ h _ _ _ _ _ _ _ _ _ _ _ _ _ => absurd rfl h⟩, fun z => absurd (dep_le he) z⟩
  rw [nI_1]
  refine G10 hV hp (d := d) (lvC M n 11) (n + 1) (e + 1) _ (RC_lvs (L := [11]) hR) (by unfold lvC; rw [ms_eq]) (by simp only [List.length_cons, List.length_nil] at hL ⊢; omega) (by omega) ?_
  exact h (lvsC (lvC M n 11) (n + 1) [10]) (n + 2) (e + 1) _ (RC_lvs (RC_lvs (L := [11]) hR)) (lvsC_n _ _ _ (by unfold lvC; rw [ms_eq])) (by simp only [List.length_cons] at hL; omega) (by omega) q
theorem G23 (h : AV A p (f + 1) d 0 L v) : GV A p (f + 2) (d + 1) 23 (23 :: 20 :: L) (nI p - v) := by
  intro M n e Q hR h27 hL he q
  refine ⟨fun _ => W1_leave (n := n) (by simp only [List.length_cons] at hL; omega) h27 ⟨fun e => absurd e (by decide), fun e => absurd e (by decide), fun e => absurd e (by decide), fun e => absurd e (by decide), fun e => absurd e (by decide), fun e => absurd e (by decide), fun e => absurd e (by decide), fun e => absurd e (by decide), fun e => absurd e (by decide), fun e => absurd e (by decide), fun e => absurd e (by decide), fun e => absurd e (by decide), fun e => absurd e (by decide), fun _ => ?_, fun e => absurd e (by decide), fun _ _ _ _ _ _ _ _ _ _ _ _ _ h _ => absurd rfl h⟩, fun z => absurd (dep_le he) z⟩
  rw [nI_1]
  refine G20 (d := d) (lvC M n 23) (n + 1) (e + 1) _ (RC_lvs (L := [23]) hR) (by unfold lvC; rw [ms_eq]) (by simp only [List.length_cons, List.length_nil] at hL ⊢; omega) (by omega) ?_
  exact h (lvsC (lvC M n 23) (n + 1) [20]) (n + 2) (e + 1) _ (RC_lvs (RC_lvs (L := [23]) hR)) (lvsC_n _ _ _ (by unfold lvC; rw [ms_eq])) (by simp only [List.length_cons] at hL; omega) (by omega) q
theorem ans_hit {A1 G1 : AGt} {Q : Int32 → Mem → Prop} {M : Mem} {k m : Nat} {x w dp s : Int32} (hk : k < 6) (hs : ¬ 6 ≤ s) (hb : ¬ (if w = 0 then tb 1 k else tb 2 k) = -1000000) (q : G1 41 M x (if w = 0 then tb 1 k else tb 2 k) (dp + 1) Q) : wL_X1_answer_11 A1 G1 41 Q (m + 1) M x w dp (nI k) s := by
  refine ⟨fun e => absurd e hs, fun _ => ?_⟩
  rw [W8w6, bI_t ⟨k, hk, rfl⟩]
  refine br1 ⟨fun z => ⟨vp_in_nI hk (by decide), ?_⟩, fun z => ⟨vp_in_nI hk (by decide), ?_⟩⟩
  · rw [ix_nat (by omega)]
    rw [if_neg z] at q hb
    exact ⟨fun e => absurd e hb, fun _ => q⟩
  · rw [ix_nat (by omega)]
    rw [if_pos z] at q hb
    exact ⟨fun e => absurd e hb, fun _ => q⟩
theorem ans_up {A1 G1 : AGt} {Q : Int32 → Mem → Prop} {M : Mem} {k k2 m : Nat} {x w dp s : Int32} (hk : k < 6) (hs : ¬ 6 ≤ s) (hb : (if w = 0 then tb 1 k else tb 2 k) = -1000000) (h2 : tb 0 k = nI k2) (q : wL_X1_answer_11 A1 G1 41 Q m M x w dp (nI k2) (s + 1)) : wL_X1_answer_11 A1 G1 41 Q (m + 1) M x w dp (nI k) s := by
  refine ⟨fun e => absurd e hs, fun _ => ?_⟩
  rw [W8w6, bI_t ⟨k, hk, rfl⟩]
  refine br1 ⟨fun z => ⟨vp_in_nI hk (by decide), ?_⟩, fun z => ⟨vp_in_nI hk (by decide), ?_⟩⟩
  · rw [ix_nat (by omega)]
    rw [if_neg z] at hb
    refine ⟨fun _ => ⟨vp_in_nI hk (by decide), fun v3 e3 v4 e4 => ?_⟩, fun e => absurd hb e⟩
    rw [ix_nat (by omega), h2] at e3
    rw [e3, e4]; exact q
  · rw [ix_nat (by omega)]
    rw [if_pos z] at hb
    refine ⟨fun _ => ⟨vp_in_nI hk (by decide), fun v3 e3 v4 e4 => ?_⟩, fun e => absurd hb e⟩
    rw [ix_nat (by omega), h2] at e3
    rw [e3, e4]; exact q
theorem Ans1 {k : Nat} {w b : Int32} (hV : V A) (hp : p < np A) (hk : A 3 p = nI k) (hk6 : k < 6) (hb : (if w = 0 then tb 1 k else tb 2 k) = b) (hb2 : ¬ b = -1000000) (h : GV A p f d b L v) : AV A p (f + 1) (d + 1) w L v := by
  intro M n e Q hR h27 hL he q
  have hn := (V_np hV).2
  refine ⟨vp_in_nI (by omega) (by decide), fun v2 e2 => ⟨1, ?_⟩⟩
  rw [ix_nat (by omega), hR.2 3 p (rel_p (by decide) (by decide) hp), hk] at e2
  rw [e2]
  refine ans_hit hk6 (by decide) (by rw [hb]; exact hb2) ?_
  rw [hb, nI_1]
  exact h M n (e + 1) Q hR h27 hL (by omega) q
theorem Ans2 {k k2 : Nat} {w b : Int32} (hV : V A) (hp : p < np A) (hk : A 3 p = nI k) (hk6 : k < 6) (hb0 : (if w = 0 then tb 1 k else tb 2 k) = -1000000) (h2 : tb 0 k = nI k2) (hk26 : k2 < 6) (hb : (if w = 0 then tb 1 k2 else tb 2 k2) = b) (hb2 : ¬ b = -1000000) (h : GV A p f d b L v) : AV A p (f + 1) (d + 1) w L v := by
  intro M n e Q hR h27 hL he q
  have hn := (V_np hV).2
  refine ⟨vp_in_nI (by omega) (by decide), fun v2 e2 => ⟨2, ?_⟩⟩
  rw [ix_nat (by omega), hR.2 3 p (rel_p (by decide) (by decide) hp), hk] at e2
  rw [e2]
  refine ans_up hk6 (by decide) hb0 h2 (ans_hit hk26 (by decide) (by rw [hb]; exact hb2) ?_)
  rw [hb, nI_1]
  exact h M n (e + 1) Q hR h27 hL (by omega) q
end AG2
