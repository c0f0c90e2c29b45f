/-! the reference reads an operand -/
def EndO (b : Nat → Int32) (n s m : Nat) (sN : List Int64) (ro mx : List Int32) (vN : List Int64) (M : Mem) (o k pr : Nat) (σ0 ν : List Nat) (K : Mem → Prop) (Kx : Mem → Prop) (R : Except (Int32 × Nat) (Nat × List Nd × Int32)) : Prop := match R with
  | .ok r => ∀ M', SR b n s m sN ro mx vN (0, 0) M' r.1 o pr σ0 ((ng k (r.2.1.length - 1) r.2.1).1 :: ν) (ng k (r.2.1.length - 1) r.2.1).2 → RFm m M M' → K M'
  | .error e => ∀ M', TXr M' e.1 e.2 → RFm m M M' → Kx M'
section
variable {b : Nat → Int32} {n s m : Nat} {sN : List Int64} {ro mx : List Int32} {vN : List Int64} {M : Mem} {i o pr : Nat} {σ ν : List Nat} {X : List Nd} {h : Nat} {Q : Option Value → Mem → Prop}
theorem SR.name (hR : SR b n s m sN ro mx vN (0, 0) M i o pr σ ν X) (hB : By b) (hk : tK b n i = 2) : NmR b n (tC b n i) (mAJ M 33 i) := by
  obtain ⟨⟨r1, r2, r3⟩, h5, h8⟩ := hR.tok
  exact ⟨tP b n i, name_WD hB hk, rfl, r3⟩
theorem B_isName (hR : SR b n s m sN ro mx vN (0, 0) M i o pr σ ν X) (hB : By b) (H : Q (some (.int (if tK b n i = 2 then 1 else 0))) M) : E (h + 2) mdX11_isName [.ref 29] M Q := by
  obtain ⟨r, h5, h8⟩ := hR.tok
  exact R_isName hR.1.1 hB h5 h8 r H
theorem B_readOperand {k g : Nat} {u : Int32} {σ0 : List Nat} (hR : SR b n s m sN ro mx vN (0, 0) M i (o + k) pr (List.replicate k 3 ++ σ0) ν X) (hB : By b) (hS : Sto b n s) (h0 : tK b n i ≠ 0) (ht : top? σ0 (fun x => x ≠ 3)) (h100 : ∀ x ∈ σ0, x < 100) (k21 : tK b n i ≠ 21) (k15 : tK b n i ≠ 15) (H : EndO b n s m sN ro mx vN M o k pr σ0 ν (fun M' => Q none M') (fun M' => Q none M') (rd b n sN mx vN (g + 1) 0 i (o + k) X u)) : E (h + 4) mdX11_readOperand [.ref 29] M Q := by
  obtain ⟨⟨r1, r2, r3⟩, h5, h8⟩ := hR.tok
  have F := hR.1.1
  have hi := hR.2.1
  unfold rd at H
  rw [if_pos rfl, if_neg k21, if_neg k15] at H
  have len1 : ∀ d : Nd, (X ++ [d]).length - 1 = X.length := fun d => by rw [List.length_append]; rfl
  have eK : tK b n i = ckK b n (tP b n i) := rfl
  have v31 : ∀ {M : Mem}, Fix M → vp_in (Int32.ofNat i) (mL M 31) := fun F => by rw [ln31 F]; exact vp_of h8 (by decide)
  have v32 : ∀ {M : Mem}, Fix M → vp_in (Int32.ofNat i) (mL M 32) := fun F => by rw [ln32 F]; exact vp_of h8 (by decide)
  have v33 : ∀ {M : Mem}, Fix M → vp_in (Int32.ofNat i) (mL M 33) := fun F => by rw [ln33 F]; exact vp_of h8 (by decide)
  have en := said_num (b := b) (n := n) (p := tP b n i) hB
  refine KX11_readOperand ?_
  unfold DX11_readOperand_0 DX11_readOperand_227
  rw [h5, lt32 (by omega)]
  refine ⟨ok29 F, 31, rf29_2 F, ok31 F, v31 F, fun hn2 => ?_, fun h2 => ?_⟩
  · rw [r1] at hn2
    have n3 : tK b n i ≠ 3 := fun z => hn2 (en.mpr z)
    rw [if_neg n3] at H
    refine B_said hR hB (k := 19) (by decide) rfl (fun _ => ⟨_, rfl, fun q => ?_, fun q => ?_⟩)
    · have n19 : tK b n i ≠ 19 := by intro z; rw [if_pos z] at q; exact absurd q (by decide)
      refine B_isName hR hB (fun _ => ⟨_, rfl, fun q2 => ?_, fun q2 => ?_⟩)
      · have k2 : tK b n i = 2 := by
          by_cases z : tK b n i = 2
          · exact z
          · rw [if_neg z] at q2; exact absurd rfl q2
        rw [if_pos k2] at H
        have hs := hS.lt hi.2.2 h0 (by rw [k2]; decide)
        have nm := hR.name hB k2
        rw [h5, lt32 (by omega)]
        refine ⟨33, rf29_4 F, ok33 F, v33 F, R_varNamed F hR.1.2.2 nm (fun _ => ⟨_, rfl, fun qv => ?_, fun qv => ?_⟩)⟩
        · cases e : fd vN (tC b n i) with
          | none => rw [e] at qv; exact absurd rfl qv
          | some j =>
            rw [e] at H
            rw [h5, lt32 (by omega)]
            refine ⟨33, rf29_4 F, ok33 F, v33 F, R_varNamed F hR.1.2.2 nm (fun _ => ⟨_, rfl, ?_⟩)⟩
            rw [e]
            have hj := (fd_some e).1
            have hv6 := hR.1.2.2.2.2.1.2.2.2
            refine B_operand (d := (1, Int64.ofNat j, 0)) (va := (Int32.ofNat j).toInt64) hR hB hs ht h100 (by show (1 : Nat) < 3; decide) (by show (Int32.ofNat j).toInt64 = Int64.ofNat j; exact i32_64 (by omega)) (fun k1 M' R' F' => ?_) (fun k1 M' T' F' => ?_)
            · have e2 : adv' b n i = .ok (i + 1) := by unfold adv'; rw [if_neg k1]
              rw [e2] at H
              refine fun _ => ⟨rfl, H M' ?_ F'⟩
              show SR b n s m sN ro mx vN (0, 0) M' (i + 1) o pr σ0 ((ng k ((X ++ [(1, Int64.ofNat j, 0)]).length - 1) (X ++ [(1, Int64.ofNat j, 0)])).1 :: ν) (ng k ((X ++ [(1, Int64.ofNat j, 0)]).length - 1) (X ++ [(1, Int64.ofNat j, 0)])).2
              rw [len1]; exact R'
            · have e2 : adv' b n i = .error (1, tP b n (i + 1)) := by unfold adv'; rw [if_pos k1]
              rw [e2] at H
              exact fun _ => ⟨rfl, H M' T' F'⟩
        · cases e : fd vN (tC b n i) with
          | none =>
            rw [e] at H
            rw [h5, lt32 (by omega)]
            exact ⟨32, rf29_3 F, ok32 F, v32 F, B_fails hR (by decide) (fun M' T' F' _ => ⟨rfl, H M' T' F'⟩)⟩
          | some j =>
            rw [e] at qv
            exact absurd qv (oi_ne (by have := (fd_some e).1; have := hR.1.2.2.2.2.1.2.2.2; omega))
      · have n2 : tK b n i ≠ 2 := by intro z; rw [if_pos z] at q2; exact absurd q2 (by decide)
        rw [if_neg n2, if_neg n19] at H
        rw [h5, lt32 (by omega)]
        exact ⟨32, rf29_3 F, ok32 F, v32 F, B_fails hR (by decide) (fun M' T' F' _ => ⟨rfl, H M' T' F'⟩)⟩
    · have k19 : tK b n i = 19 := by
        by_cases z : tK b n i = 19
        · exact z
        · rw [if_neg z] at q; exact absurd rfl q
      have n2 : tK b n i ≠ 2 := by rw [k19]; decide
      rw [if_neg n2, if_pos k19] at H
      have hs := hS.lt hi.2.2 h0 (by rw [k19]; decide)
      obtain ⟨g1, g2, g3, g4, g5, g6, g7, g8, g9, g10⟩ := id hR
      refine B_take (pr := pr) (o := o + k) g1 ⟨g2.1, g2.2.1, hs⟩ g3 g4.1 g5 g6 g7 g8 g9 ⟨by omega, by omega, g10.2.2.1, by omega, g10.2.2.2.2⟩ hB (fun k1 M1 R1 F1 _ => ⟨rfl, fun hc => absurd R1.2.2.2.1.1 hc, fun _ => ?_⟩) (fun k1 M1 R1 F1 _ => ⟨rfl, fun _ => ?_, fun hc => ?_⟩)
      · have e2 : adv' b n i = .ok (i + 1) := by unfold adv'; rw [if_neg k1]
        rw [e2] at H
        have H : EndO b n s m sN ro mx vN M o k pr σ0 ν (fun M' => Q none M') (fun M' => Q none M') (if tK b n (i + 1) = 2 then (match fd sN (tC b n (i + 1)) with
          | none => .error (4, tP b n (i + 1))
          | some k => if mx.getD k 0 = 0 then .error (4, tP b n (i + 1)) else (adv' b n (i + 1)).bind fun j' => .ok (j', X ++ [(2, Int64.ofNat k, 0)], u))
          else .error (2, tP b n (i + 1))) := H
        have FF := R1.1.1
        obtain ⟨-, h5', h8'⟩ := R1.tok
        have w31 : ∀ {M : Mem}, Fix M → vp_in (Int32.ofNat (i + 1)) (mL M 32) := fun F => by rw [ln32 F]; exact vp_of h8' (by decide)
        have w33 : ∀ {M : Mem}, Fix M → vp_in (Int32.ofNat (i + 1)) (mL M 33) := fun F => by rw [ln33 F]; exact vp_of h8' (by decide)
        unfold DX11_readOperand_76 DX11_readOperand_123 DX11_readOperand_147 DX11_readOperand_227
        refine B_isName R1 hB (fun _ => ⟨_, rfl, fun q2 => ?_, fun q2 => ?_⟩)
        · have n2' : tK b n (i + 1) ≠ 2 := by intro z; rw [if_pos z] at q2; exact absurd q2 (by decide)
          rw [if_neg n2'] at H
          refine ⟨ok29 FF, B_isName R1 hB (fun _ => ⟨_, rfl, fun q3 => ?_, fun _ => ?_⟩)⟩
          · rw [if_neg n2'] at q3; exact absurd rfl q3
          · rw [h5', lt32 (by omega)]
            exact ⟨32, rf29_3 FF, ok32 FF, w31 FF, B_fails R1 (by decide) (fun M' T' F' _ => ⟨rfl, H M' T' (F1.tr F')⟩)⟩
        · have k2 : tK b n (i + 1) = 2 := by
            by_cases z : tK b n (i + 1) = 2
            · exact z
            · rw [if_neg z] at q2; exact absurd rfl q2
          rw [if_pos k2] at H
          have nm := R1.name hB k2
          rw [h5', lt32 (by omega)]
          refine ⟨33, rf29_4 FF, ok33 FF, w33 FF, R_sigNamed FF R1.1.2.2 nm (fun _ => ⟨_, rfl, ok29 FF, B_isName R1 hB (fun _ => ⟨_, rfl, fun _ => ⟨fun qv => ?_, fun qv => ?_⟩, fun q3 => ?_⟩)⟩)⟩
          · cases e : fd sN (tC b n (i + 1)) with
            | none =>
              rw [e] at H
              rw [h5', lt32 (by omega)]
              exact ⟨ok29 FF, 32, rf29_3 FF, ok32 FF, w31 FF, B_fails R1 (by decide) (fun M' T' F' _ => ⟨rfl, H M' T' (F1.tr F')⟩)⟩
            | some j =>
              rw [e] at qv
              exact absurd qv (oi_ne (by have := (fd_some e).1; have := R1.1.2.2.2.2.1.1; omega))
          · cases e : fd sN (tC b n (i + 1)) with
            | none => rw [e] at qv; exact absurd rfl qv
            | some j =>
              rw [e] at H
              have H : EndO b n s m sN ro mx vN M o k pr σ0 ν (fun M' => Q none M') (fun M' => Q none M') (if mx.getD j 0 = 0 then .error (4, tP b n (i + 1)) else (adv' b n (i + 1)).bind fun j' => .ok (j', X ++ [(2, Int64.ofNat j, 0)], u)) := H
              have hj := (fd_some e).1
              obtain ⟨c1, c2, c3, c4, c5, c6, c7, c8, c9⟩ := R1.1.2.2
              have e16 : (16 : Int32) * mI M1 29 19 + oi (some j) = Int32.ofNat (16 * m + j) := by
                rw [c1, show (16 : Int32) = Int32.ofNat 16 from rfl, mul32]; exact add32
              rw [e16, lt32 (by omega)]
              have e39 : (mAI M1 39 (16 * m + j) = 0) ↔ mx.getD j 0 = 0 := by
                rw [(c8 j hj).1]
                by_cases z : mx.getD j 0 = 0
                · rw [if_pos z]; exact ⟨fun _ => z, fun _ => rfl⟩
                · rw [if_neg z]
                  exact ⟨fun q => absurd (by rw [show mx.getD j 0 = mx.getD j 0 - 32 + 32 by rw [Int32.sub_add_cancel], q]; rfl) (c8 j hj).2, fun q => absurd q z⟩
              refine ⟨39, rf29_13 FF, ok39 FF, by rw [ln39 FF]; exact vp_of (by omega) (by decide), fun qm => ?_, fun qm => ?_⟩
              · rw [if_neg (fun z => qm (e39.mpr z))] at H
                have hs2 := hS.lt hs k1 (by rw [k2]; decide)
                refine B_operand (d := (2, Int64.ofNat j, 0)) (va := (Int32.ofNat j).toInt64) R1 hB hs2 ht h100 (by show (2 : Nat) < 3; decide) (by show (Int32.ofNat j).toInt64 = Int64.ofNat j; exact i32_64 (by omega)) (fun k2 M' R' F' => ?_) (fun k2 M' T' F' => ?_)
                · have e5 : adv' b n (i + 1) = .ok (i + 1 + 1) := by unfold adv'; rw [if_neg k2]
                  rw [e5] at H
                  refine fun _ => ⟨rfl, H M' ?_ (F1.tr F')⟩
                  show SR b n s m sN ro mx vN (0, 0) M' (i + 1 + 1) o pr σ0 ((ng k ((X ++ [(2, Int64.ofNat j, 0)]).length - 1) (X ++ [(2, Int64.ofNat j, 0)])).1 :: ν) (ng k ((X ++ [(2, Int64.ofNat j, 0)]).length - 1) (X ++ [(2, Int64.ofNat j, 0)])).2
                  rw [len1]; exact R'
                · have e5 : adv' b n (i + 1) = .error (1, tP b n (i + 1 + 1)) := by unfold adv'; rw [if_pos k2]
                  rw [e5] at H
                  exact fun _ => ⟨rfl, H M' T' (F1.tr F')⟩
              · rw [if_pos (e39.mp qm)] at H
                rw [h5', lt32 (by omega)]
                exact ⟨ok29 FF, 32, rf29_3 FF, ok32 FF, w31 FF, B_fails R1 (by decide) (fun M' T' F' _ => ⟨rfl, H M' T' (F1.tr F')⟩)⟩
          · rw [if_pos k2] at q3; exact absurd q3 (by decide)
      · have e2 : adv' b n i = .error (1, tP b n (i + 1)) := by unfold adv'; rw [if_pos k1]
        rw [e2] at H
        exact H M1 (R1.x (by decide)) F1
      · have := R1.2.2.2.1.1
        rw [this] at hc
        exact absurd hc (by show ¬ (1 : Int32) = 0; decide)
  · rw [r1] at h2
    have k3 : tK b n i = 3 := en.mp h2
    rw [if_pos k3] at H
    have hs := hS.lt hi.2.2 h0 (by rw [k3]; decide)
    obtain ⟨-, -, x, hx, ex, ev⟩ := num_val2 hB k3
    refine ⟨33, rf29_4 F, ok33 F, v33 F, B_operand (d := (0, tC b n i, 0)) hR hB hs ht h100 (by show (0 : Nat) < 3; decide) (by rw [r3, ev]; exact ex.symm) (fun k1 M' R' F' => ?_) (fun k1 M' T' F' => ?_)⟩
    · have e2 : adv' b n i = .ok (i + 1) := by unfold adv'; rw [if_neg k1]
      rw [e2] at H
      refine fun _ => ⟨rfl, H M' ?_ F'⟩
      show SR b n s m sN ro mx vN (0, 0) M' (i + 1) o pr σ0 ((ng k ((X ++ [(0, tC b n i, 0)]).length - 1) (X ++ [(0, tC b n i, 0)])).1 :: ν) (ng k ((X ++ [(0, tC b n i, 0)]).length - 1) (X ++ [(0, tC b n i, 0)])).2
      rw [len1]; exact R'
    · have e2 : adv' b n i = .error (1, tP b n (i + 1)) := by unfold adv'; rw [if_pos k1]
      rw [e2] at H
      exact fun _ => ⟨rfl, H M' T' F'⟩
end
