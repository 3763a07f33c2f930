def pc (x : Nat) : Nat := fb_ct (fun k => x.testBit k) 6
theorem pc_le (x : Nat) : pc x ≤ 6 := fb_ct_le _ _
def bcF (x0 : Int32) : Int32 :=
  let v1 := (x0 - (((Int32.toUInt32 x0 >>> (Int32.toUInt32 1 &&& Int32.toUInt32 31)).toInt32) &&& 1431655765))
  let v2 := ((v1 &&& 858993459) + (((Int32.toUInt32 v1 >>> (Int32.toUInt32 2 &&& Int32.toUInt32 31)).toInt32) &&& 858993459))
  let v3 := ((v2 + ((Int32.toUInt32 v2 >>> (Int32.toUInt32 4 &&& Int32.toUInt32 31)).toInt32)) &&& 252645135)
  let v4 := (v3 + ((Int32.toUInt32 v3 >>> (Int32.toUInt32 8 &&& Int32.toUInt32 31)).toInt32))
  let v5 := (v4 + ((Int32.toUInt32 v4 >>> (Int32.toUInt32 16 &&& Int32.toUInt32 31)).toInt32))
  v5 &&& 63
theorem bc_pc : ∀ x, x < 64 → bcF (nI x) = nI (pc x) := by decide +kernel
theorem W_bc {M : Mem} {x : Nat} {Q : Int32 → Mem → Prop} (hx : x < 64) (q : Q (nI (pc x)) M) : w_J6_bitCount_0f7a4 M (nI x) Q := by
  rw [← bc_pc x hx] at q
  intro v1 e1 v2 e2 v3 e3 v4 e4 v5 e5
  subst e1 e2 e3 e4 e5
  exact q
theorem shl7 : ∀ k, k < 7 → (1 : Int32) <<< (nI k &&& 31) = nI (2 ^ k) := by decide
/-- the best parade so far -/
def pgo (A : Tn) (c d : Nat) (st : Option Nat) (i : Nat) : Prop := bs i c = false ∧ (∀ w, st = some w → pc i < pc w) ∧ OPN (pw A c d (bs i)) (bv A c) allA (np A)
noncomputable def pnx (A : Tn) (c d : Nat) (st : Option Nat) (i : Nat) : Option Nat := @ite _ (pgo A c d st i) (Classical.propDecidable _) (some i) st
theorem pnx_t {A : Tn} {c d : Nat} {st : Option Nat} {i : Nat} (h : pgo A c d st i) : pnx A c d st i = some i := @if_pos _ (Classical.propDecidable _) h _ _ _
theorem pnx_f {A : Tn} {c d : Nat} {st : Option Nat} {i : Nat} (h : ¬ pgo A c d st i) : pnx A c d st i = st := @if_neg _ (Classical.propDecidable _) h _ _ _
noncomputable def pst (A : Tn) (c d : Nat) : Nat → Option Nat
  | 0 => none
  | i + 1 => pnx A c d (pst A c d i) i
theorem pst_lt {A : Tn} {c d : Nat} : ∀ i w, pst A c d i = some w → w < i
  | 0, w, h => absurd h (by intro e; cases e)
  | i + 1, w, h => by
    have h : pnx A c d (pst A c d i) i = some w := h
    by_cases g : pgo A c d (pst A c d i) i
    · rw [pnx_t g] at h
      have := Option.some.inj h
      omega
    · rw [pnx_f g] at h
      have := pst_lt i w h
      omega
def e4 (st : Option Nat) : Int32 := match st with | none => -1000000 | some w => nI (pc w)
def e5 (st : Option Nat) : Int32 := match st with | none => -1000000 | some w => nI w
theorem mk_tnx {A : Tn} {d k : Nat} {s : Nat → Bool} (hd : d < 6) (hk : k < 6) (hs : s k = false) : tnx (mkT A d s) (6 * k + d) = tnx A (6 * k + d) := by
  have h : mkT A d s 9 (6 * k + d) = A 9 (6 * k + d) := by
    rw [(mk_c hd hk).1, hs, if_neg (by decide)]
  unfold tnx na
  rw [h]
section PD2
variable {M : Mem} {A : Tn} {c d : Nat} {x : Int32}
theorem RC_alk {T : Nat} {B : Tn} (h : RC M T A) (ha : Alk A B) : RC M T B := ⟨fun j hj => (h.1 j hj).trans (ha.1 j hj), fun f i hr => by
  have hr2 := (Alk_rel ha f i).mp hr
  exact (h.2 f i hr2).trans (ha.2 f i hr2)⟩
theorem mk_alk {s s2 : Nat → Bool} (hV : V A) (h : ∀ k, k < np A → s k = s2 k) : Alk (mkT A d s) (mkT A d s2) := by
  have hn := (V_np hV).2
  have hd6 := (V_nd hV).2
  refine ⟨fun j _ => by rw [mk_o _ (by decide), mk_o _ (by decide)], fun f i hr => ?_⟩
  by_cases hf : f < 9
  · rw [mk_o _ hf, mk_o _ hf]
  · rcases hr with z | z | ⟨z, p, e, hp, he, ei⟩
    · omega
    · omega
    · rw [mk_n.2.1] at he
      rw [mk_n.2.2] at hp
      have : i / 6 = p := by omega
      unfold mkT
      rw [this, h p hp]
theorem Pd8 {Q : Int32 → Mem → Prop} (h3 : M 41 3 = nI (np A)) (hV : V A) (hc : c < np A) (hd : d < nd A) (hB : Bal M (np A) (bw A c d) (bv A c)) (hR : RC M 52 (mkT A d (fun _ => true))) (q : (x = 0 → Q (e4 (pst A c d (2 ^ np A))) M) ∧ (¬ x = 0 → Q (e5 (pst A c d (2 ^ np A))) M)) : ∃ n2 : Nat, wL_X8_parade_95 Q n2 M (nI c) (nI d) x (-1000000) (-1000000) 0 := by
  have hn := (V_np hV).2
  have hpow : 2 ^ np A ≤ 2 ^ 6 := Nat.pow_le_pow_right (by decide) hn
  have go : ∀ m i : Nat, i + m = 2 ^ np A → wL_X8_parade_95 Q (m + 1) M (nI c) (nI d) x (e4 (pst A c d i)) (e5 (pst A c d i)) (nI i) := by
    intro m
    induction m with
    | zero =>
      intro i hi
      have hi : i = 2 ^ np A := by omega
      subst hi
      refine ⟨fun _ => ⟨fun z => q.2 z, fun z => q.1 z⟩, fun e => absurd ?_ e⟩
      rw [h3, shl7 _ (by omega)]; exact nI_le (Nat.le_refl _) (by omega)
    | succ m ih =>
      intro i hi
      have hh := ih (i + 1) (by omega)
      have hb := bit6t (s := i) (c := c) (by omega) (by omega)
      refine ⟨fun e => absurd e (by rw [h3, shl7 _ (by omega)]; exact nI_ge (by omega) (by omega)), fun _ => ⟨fun z => ?_, fun z => ?_⟩⟩
      · have hbf : bs i c = false := by
          cases hbv : bs i c with
          | false => rfl
          | true => exact absurd z (hb.mpr hbv)
        unfold wJ_X8_parade_123
        refine W_bc (by omega) ⟨fun e => absurd rfl e, fun _ => ?_⟩
        have p152 : (∀ w, pst A c d i = some w → pc i < pc w) → wJ_X8_parade_152 Q (wL_X8_parade_95 Q (m + 1)) M (nI c) (nI d) x (e4 (pst A c d i)) (e5 (pst A c d i)) (nI i) (nI (pc i)) := by
          intro hw
          unfold wJ_X8_parade_152
          refine W2_behind (by omega) hV hd hB hR ?_
          by_cases ho : OPN (pw A c d (bs i)) (bv A c) allA (np A)
          · rw [bI_t ho]
            have e : pst A c d (i + 1) = some i := pnx_t ⟨hbf, hw, ho⟩
            rw [e] at hh
            refine br1 (fun v5 ev5 => ?_)
            rw [ev5, nI_1]; exact hh
          · rw [bI_f ho]
            have e : pst A c d (i + 1) = pst A c d i := pnx_f (fun g => ho g.2.2)
            rw [e] at hh
            refine br0 (fun v5 ev5 => ?_)
            rw [ev5, nI_1]; exact hh
        cases hst : pst A c d i with
        | none =>
          rw [hst] at p152
          exact ⟨fun _ => p152 (fun w hw => absurd hw (by intro e; cases e)), fun e => absurd rfl e⟩
        | some w =>
          rw [hst] at p152
          have pw1 := pc_le w
          have pw2 := pc_le i
          refine ⟨fun e => absurd e (nI_none (by omega)), fun _ => ?_⟩
          show (nI (pc w) ≤ nI (pc i) → _) ∧ _
          rw [nI_leI (by omega) (by omega)]
          refine ⟨fun y v7 ev7 => ?_, fun y => p152 (fun w' hw' => ?_)⟩
          · have e : pst A c d (i + 1) = pst A c d i := pnx_f (fun g => by
              have := g.2.1 w hst
              omega)
            rw [e, hst] at hh
            rw [ev7, nI_1]; exact hh
          · have y2 : ¬ pc w ≤ pc i := fun hle => y (nI_le hle (show pc i < 2 ^ 31 by omega))
            rw [← Option.some.inj hw']
            omega
      · unfold wJ_X8_parade_123
        refine W_bc (by omega) ⟨fun _ v4 ev4 => ?_, fun e => absurd e (by decide)⟩
        have e : pst A c d (i + 1) = pst A c d i := pnx_f (fun g => by
          have g1 := g.1
          rw [show bs i c = true from hb.mp z] at g1
          exact absurd g1 (by decide))
        rw [e] at hh
        rw [ev4, nI_1]; exact hh
  exact ⟨2 ^ np A + 1, go (2 ^ np A) 0 (by omega)⟩
theorem Pd9 {Q : Int32 → Mem → Prop} (hM : RM M 0 A) (hV : V A) (h0 : M 85 15 = 0) (hc : c < np A) (hd : d < nd A) (hx : isIx x 2) (q : ∀ M2, Fr SScr M M2 → (x = 0 → Q (e4 (pst A c d (2 ^ np A))) M2) ∧ (¬ x = 0 → Q (e5 (pst A c d (2 ^ np A))) M2)) : ∃ n10 : Nat, wL_X9_parade_36 Q n10 M (nI c) (nI d) x (-1000000) 0 := by
  have hn := (V_np hV).2
  have hd6 := (V_nd hV).2
  have hpow : 2 ^ np A ≤ 2 ^ 6 := Nat.pow_le_pow_right (by decide) hn
  have h3 : ∀ {M1}, Fr SScr M M1 → M1 86 3 = nI (np A) := fun hF => (RM0 (RM_scr hM hV hF) (j := 3) (by decide)).trans (V_np hV).1
  have mark : ∀ (R36 : Mem → Int32 → Int32 → Int32 → Int32 → Int32 → Prop) (i : Nat) (x4 : Int32), i < 64 → bs i c = false → (∀ M2, Fr SScr M M2 → (OPN (pw A c d (bs i)) (bv A c) allA (np A) → R36 M2 (nI c) (nI d) x (nI i) (nI (i + 1))) ∧ (¬ OPN (pw A c d (bs i)) (bv A c) allA (np A) → R36 M2 (nI c) (nI d) x x4 (nI (i + 1)))) → ∀ m k : Nat, k + m = np A → ∀ M1, Fr SScr M M1 → RM M1 3402 (mkT A d (fun j => decide (j < k) && bs i j)) → wL_X9_parade_89 Q R36 (m + 1) M1 (nI c) (nI d) x x4 (nI i) (nI k) := by
    intro R36 i x4 hi hbc hR m
    induction m with
    | zero =>
      intro k hk M1 hF hRM
      have hk : k = np A := by omega
      subst hk
      refine ⟨fun _ => ?_, fun e => absurd (by rw [h3 hF]; exact nI_le (Nat.le_refl _) (by omega)) e⟩
      have hRM2 : RM M1 3402 (mkT A d (bs i)) := RM_alk hRM (mk_alk hV (fun k hk => by rw [decide_eq_true hk, Bool.true_and]))
      refine W9_open0 (B := 3402) hRM2 (by decide) (V_mk hV (by omega)) ((hF 85 15 (by unfold SScr; omega)).trans h0) (by rw [mk_n.2.2]; exact hc) (by rw [mk_n.2.1]; exact hd) ?_
      have hop := Op_mk (A := A) (c := c) (d := d) (s := bs i) hV (by omega) hbc
      rw [bI_congr hop]
      by_cases ho : OPN (pw A c d (bs i)) (bv A c) allA (np A)
      · rw [bI_t ho]
        refine br1 (fun v6 e6 => ?_)
        rw [e6, nI_1]; exact (hR M1 hF).1 ho
      · rw [bI_f ho]
        refine br0 (fun v6 e6 => ?_)
        rw [e6, nI_1]; exact (hR M1 hF).2 ho
    | succ m ih =>
      intro k hk M1 hF hRM
      refine ⟨fun e => absurd e (by rw [h3 hF]; exact nI_ge (by omega) (by omega)), fun _ => ?_⟩
      refine W9_hasN hi (by omega) (fun hb => br1 ?_) (fun hb => br0 (fun v10 e10 => ?_))
      · have hV1 : V (mkT A d (fun j => decide (j < k) && bs i j)) := V_mk hV (by omega)
        refine W9_gt (B := 3402) hRM (by decide) hV1 (by rw [mk_n.2.2]; omega) (by rw [mk_n.2.1]; exact hd) (fun v13 e13 => ?_)
        rw [e13, nI_1]
        have hs : (fun j => decide (j < k) && bs i j) k = false := by
          show (decide (k < k) && bs i k) = false
          rw [decide_eq_false (by omega), Bool.false_and]
        have htn : tnx (mkT A d (fun j => decide (j < k) && bs i j)) (6 * k + d) = tnx A (6 * k + d) := mk_tnx (by omega) (by omega) hs
        have h05 : mkT A d (fun j => decide (j < k) && bs i j) 0 5 = A 0 5 := mk_o _ (by decide)
        rw [htn, h05]
        have hG := RM_gt (p := k) (d := d) (v := nI (tnx A (6 * k + d))) (w := A 0 5) hRM hV1 (by rw [mk_n.2.2]; omega) (by rw [mk_n.2.1]; exact hd) ⟨_, tnx_le _ _, rfl⟩
        rw [mk_s (s2 := fun j => decide (j < k + 1) && bs i j) (by omega) (by omega) (fun j => ?_)] at hG
        · refine ih (k + 1) (by omega) _ ?_ hG
          exact Fr_ms (Fr_ms hF _ (by unfold SScr; omega)) _ (by unfold SScr; omega)
        · show (decide (j < k + 1) && bs i j) = if j = k then true else (decide (j < k) && bs i j)
          by_cases ej : j = k
          · rw [if_pos ej, ej, decide_eq_true (by omega), Bool.true_and]; exact hb
          · rw [if_neg ej, decide_eq_decide.mpr (show j < k + 1 ↔ j < k by omega)]
      · rw [e10, nI_1]
        refine ih (k + 1) (by omega) M1 hF (RM_alk hRM ?_)
        have : (fun j => decide (j < k) && bs i j) = (fun j => decide (j < k + 1) && bs i j) := by
          funext j
          by_cases ej : j = k
          · have : bs i k = false := Bool.eq_false_iff.mpr hb
            rw [ej, this, Bool.and_false, Bool.and_false]
          · rw [decide_eq_decide.mpr (show j < k + 1 ↔ j < k by omega)]
        rw [this]
        exact Alk_rf _
  have go : ∀ m i : Nat, i + m = 2 ^ np A → ∀ M1, Fr SScr M M1 → wL_X9_parade_36 Q (m + 1) M1 (nI c) (nI d) x (e5 (pst A c d i)) (nI i) := by
    intro m
    induction m with
    | zero =>
      intro i hi M1 hF
      have hi : i = 2 ^ np A := by omega
      subst hi
      refine ⟨fun _ => ?_, fun e => absurd (by rw [h3 hF, shl7 _ (by omega)]; exact nI_le (Nat.le_refl _) (by omega)) e⟩
      have hq := q M1 hF
      cases hst : pst A c d (2 ^ np A) with
      | none =>
        rw [hst] at hq
        refine ⟨fun _ => ?_, fun e => absurd rfl e⟩
        by_cases z : x = 0
        · exact hq.1 z
        · exact hq.2 z
      | some w =>
        rw [hst] at hq
        have hw := pst_lt _ w hst
        refine ⟨fun e => absurd e (nI_none (by omega)), fun _ => ⟨fun z => ?_, fun z => ?_⟩⟩
        · have z0 : x = 0 := by
            obtain ⟨j, hj, e⟩ := hx
            rcases (by omega : j = 0 ∨ j = 1) with h | h
            · rw [e, h]; rfl
            · exact absurd (by rw [e, h]; rfl) z
          exact W9_bits (by omega) (hq.1 z0)
        · exact hq.2 (by rw [z]; decide)
    | succ m ih =>
      intro i hi M1 hF
      refine ⟨fun e => absurd e (by rw [h3 hF, shl7 _ (by omega)]; exact nI_ge (by omega) (by omega)), fun _ => ?_⟩
      refine W9_hasN (by omega) (by omega) (fun hb => cr1 (fun v9 e9 => ?_)) (fun hb => cr0 ?_)
      · have e : pst A c d (i + 1) = pst A c d i := pnx_f (fun g => by
          have g1 := g.1
          rw [show bs i c = true from hb] at g1
          exact absurd g1 (by decide))
        have hh := ih (i + 1) (by omega) M1 hF
        rw [e] at hh
        rw [e9, nI_1]; exact hh
      · have hbf : bs i c = false := Bool.eq_false_iff.mpr hb
        have p78 : (∀ w, pst A c d i = some w → pc i < pc w) → wJ_X9_parade_78 Q (wL_X9_parade_36 Q (m + 1)) M1 (nI c) (nI d) x (e5 (pst A c d i)) (nI i) := by
          intro hw
          unfold wJ_X9_parade_78
          refine W9_copyTown (a := 0) (b := 3402) (by omega) (by omega) (by omega) ⟨np A + 1, ?_⟩
          have hFc : Fr SScr M (cpT M1 0 3402 126) := fun k j hk => by
            rw [cpT_app, if_neg (by unfold SScr at hk; omega)]
            exact hF k j hk
          have hMc : RM (cpT M1 0 3402 126) 3402 A := RM_mv (RM_scr hM hV hF) hV (fun k hk => by
            rw [cpT_app, if_pos (by omega)]
            exact congrArg (M1 86) (by omega))
          refine mark _ i _ (by omega) hbf (fun M2 hF2 => ⟨fun ho => ?_, fun ho => ?_⟩) (np A) 0 (by omega) _ hFc (RM_alk hMc ?_)
          · have e : pst A c d (i + 1) = some i := pnx_t ⟨hbf, hw, ho⟩
            have hh := ih (i + 1) (by omega) M2 hF2
            rw [e] at hh
            exact hh
          · have e : pst A c d (i + 1) = pst A c d i := pnx_f (fun g => ho g.2.2)
            have hh := ih (i + 1) (by omega) M2 hF2
            rw [e] at hh
            exact hh
          · have : (fun j => decide (j < 0) && bs i j) = (fun _ => false) := by
              funext j
              rw [decide_eq_false (by omega), Bool.false_and]
            rw [this, mk_0]
            exact Alk_rf _
        cases hst : pst A c d i with
        | none =>
          rw [hst] at p78
          exact ⟨fun _ => p78 (fun w hw => absurd hw (by intro e; cases e)), fun e => absurd rfl e⟩
        | some w =>
          rw [hst] at p78
          have hw := pst_lt _ w hst
          have pw1 := pc_le w
          have pw2 := pc_le i
          refine ⟨fun e => absurd e (nI_none (by omega)), fun _ => W9_bits (by omega) (W9_bits (by omega) ?_)⟩
          show (nI (pc w) ≤ nI (pc i) → _) ∧ _
          rw [nI_leI (by omega) (by omega)]
          refine ⟨fun y v7 ev7 => ?_, fun y => p78 (fun w' hw' => ?_)⟩
          · have e : pst A c d (i + 1) = pst A c d i := pnx_f (fun g => by
              have := g.2.1 w hst
              omega)
            have hh := ih (i + 1) (by omega) M1 hF
            rw [e, hst] at hh
            rw [ev7, nI_1]; exact hh
          · have y2 : ¬ pc w ≤ pc i := fun hle => y (nI_le hle (show pc i < 2 ^ 31 by omega))
            rw [← Option.some.inj hw']
            omega
  exact ⟨2 ^ np A + 1, go (2 ^ np A) 0 (by omega) M (Fr_rf _ _)⟩
end PD2
theorem S_parade (M : Mem) (a b x : Int32) (A : Tn) (hC : RC M 41 A) (hM : RM M 0 A) (hV : V A) (h0 : M 85 15 = 0) : w_X8_parade M a b x (fun r M1 => w_X9_parade M1 a b x (fun r2 M2 => r = r2 ∧ Fr SScr M M2)) := by
  have hn := (V_np hV).2
  have hd6 := (V_nd hV).2
  have h3 : M 41 3 = nI (np A) := (hC.1 3 (by decide)).trans (V_np hV).1
  unfold w_X8_parade
  refine P8 hC hV (fun c hc ec => br1 (D8 hC hV (fun d hd ed => br1 ?_) (fun hne => br0 ?_))) (fun hne => br0 ?_)
  · subst ec ed
    rw [W8w2]
    by_cases hx : isIx x 2
    · rw [bI_t hx]
      refine cr1 (W2_hold hC (by decide) hV hc hd (fun M10 hF10 hB => W6_become (by decide) (fun M12 b1 b2 => ?_)))
      have hC10 := RC_bal hC (by decide) hF10
      have hF12 : Fr SScr M M12 := fun k j hk => (b2 k j (by unfold SScr at hk; omega)).trans (hF10 k j (fun e => hk (bal_scr e)))
      have hB12 : Bal M12 (np A) (bw A c d) (bv A c) := by
        unfold Bal at hB ⊢
        rw [b2 29 2 (by omega)]
        refine ⟨hB.1, fun k hk => ?_⟩
        rw [b2 30 k (by omega), b2 31 k (by omega)]
        exact hB.2 k hk
      have hR12 : RC M12 52 A := RC_bec hC10 hV b1
      have fin : ∀ M1, Fr SScr M M1 → ∀ v : Int32, v = (if x = 0 then e4 (pst A c d (2 ^ np A)) else e5 (pst A c d (2 ^ np A))) → w_X9_parade M1 (nI c) (nI d) x (fun r2 M2 => v = r2 ∧ Fr SScr M M2) := by
        intro M1 hF1 v hv
        have hM1 := RM_scr hM hV hF1
        unfold w_X9_parade
        refine P9 hM1 hV (fun c2 hc2 e => br1 (D9 hM1 hV (fun d2 hd2 e2 => br1 ?_) (fun h => absurd ⟨d, hd, rfl⟩ h))) (fun h => absurd ⟨c, hc, rfl⟩ h)
        rw [W9i1, bI_t hx]
        refine cr1 (Pd9 hM1 hV ((hF1 85 15 (by unfold SScr; omega)).trans h0) hc hd hx (fun M2 hF2 => ⟨fun z => ⟨?_, Fr_tr hF1 hF2⟩, fun z => ⟨?_, Fr_tr hF1 hF2⟩⟩))
        · rw [hv, if_pos z]
        · rw [hv, if_neg z]
      have go : ∀ m k : Nat, k + m = np A → ∀ M1, Fr SScr M M1 → Bal M1 (np A) (bw A c d) (bv A c) → RC M1 52 (mkT A d (fun j => decide (j < k))) → wL_X8_parade_54 (fun r M1 => w_X9_parade M1 (nI c) (nI d) x (fun r2 M2 => r = r2 ∧ Fr SScr M M2)) (m + 1) M1 (nI c) (nI d) x (nI k) := by
        intro m
        induction m with
        | zero =>
          intro k hk M1 hF hB hR
          have hk : k = np A := by omega
          subst hk
          have h31 : M1 41 3 = nI (np A) := (hF 41 3 (by unfold SScr; omega)).trans h3
          refine ⟨fun _ => ?_, fun e => absurd (by rw [h31]; exact nI_le (Nat.le_refl _) (by omega)) e⟩
          refine Pd8 h31 hV hc hd hB (RC_alk hR (mk_alk hV (fun k hk => decide_eq_true hk))) ⟨fun z => fin M1 hF _ (by rw [if_pos z]), fun z => fin M1 hF _ (by rw [if_neg z])⟩
        | succ m ih =>
          intro k hk M1 hF hB hR
          refine ⟨fun e => absurd e (by rw [hF 41 3 (by unfold SScr; omega), h3]; exact nI_ge (by omega) (by omega)), fun _ => ?_⟩
          have hV1 : V (mkT A d (fun j => decide (j < k))) := V_mk hV (by omega)
          refine W6_mark hR hV1 (by rw [mk_n.2.2]; omega) (by rw [mk_n.2.1]; exact hd) (fun v5 e5' => ?_)
          rw [e5', nI_1]
          have htn : tnx (mkT A d (fun j => decide (j < k))) (6 * k + d) = tnx A (6 * k + d) := mk_tnx (by omega) (by omega) (decide_eq_false (by omega))
          have h05 : mkT A d (fun j => decide (j < k)) 0 5 = A 0 5 := mk_o _ (by decide)
          rw [htn, h05]
          have hG := RC_ms (f := 10) (i := 6 * k + d) (v := A 0 5) (RC_ms (f := 9) (i := 6 * k + d) (v := nI (tnx A (6 * k + d))) hR (by decide)) (by decide)
          rw [mk_s (s2 := fun j => decide (j < k + 1)) (by omega) (by omega) (fun j => ?_)] at hG
          · refine ih (k + 1) (by omega) _ (Fr_ms (Fr_ms hF _ (by unfold SScr; omega)) _ (by unfold SScr; omega)) ?_ hG
            unfold Bal at hB ⊢
            rw [ms_ne (by decide), ms_ne (by decide)]
            refine ⟨hB.1, fun j hj => ?_⟩
            rw [ms_ne (by decide), ms_ne (by decide), ms_ne (by decide), ms_ne (by decide)]
            exact hB.2 j hj
          · show decide (j < k + 1) = if j = k then true else decide (j < k)
            by_cases ej : j = k
            · rw [if_pos ej, ej, decide_eq_true (by omega)]
            · rw [if_neg ej, decide_eq_decide.mpr (show j < k + 1 ↔ j < k by omega)]
      refine ⟨np A + 1, go (np A) 0 (by omega) M12 hF12 hB12 ?_⟩
      have : (fun j => decide (j < 0)) = (fun _ : Nat => false) := by
        funext j
        rw [decide_eq_false (by omega)]
      rw [this, mk_0]
      exact hR12
    · rw [bI_f hx]
      refine cr0 ?_
      unfold w_X9_parade
      refine P9 hM hV (fun c2 hc2 e => br1 (D9 hM hV (fun d2 hd2 e2 => br1 ?_) (fun h => absurd ⟨d, hd, rfl⟩ h))) (fun h => absurd ⟨c, hc, rfl⟩ h)
      rw [W9i1, bI_f hx]
      exact cr0 ⟨rfl, Fr_rf _ _⟩
  · unfold w_X9_parade
    exact P9 hM hV (fun p2 hp2 e => br1 (D9 hM hV (fun r2 hr2 e2 => absurd ⟨r2, hr2, e2⟩ hne) (fun h => br0 ⟨rfl, Fr_rf _ _⟩))) (fun h => absurd ⟨c, hc, ec⟩ h)
  · unfold w_X9_parade
    exact P9 hM hV (fun p2 hp2 e => absurd ⟨p2, hp2, e⟩ hne) (fun h => br0 ⟨rfl, Fr_rf _ _⟩)
