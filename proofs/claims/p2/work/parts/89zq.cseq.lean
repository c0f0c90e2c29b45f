/-! the class reads parts: rows -/
section
variable {b : Nat → Int32} {n s n0 m : Nat} {τ : Td} {M0 M M' : Mem} {i o j g : Nat} {γ : ClT} {σ : PS} {K : List KE} {cn : Nat → Nat} {ps : List Nat} {tl : List Int64} {f c : Int32} {p t t' h B t0 t1 : Nat} {Q : Option Value → Mem → Prop} {Q1 : Int32 → Mem → Prop} {W : Nat}
/-- what a part comes to behind its first token -/
def bdM (b : Nat → Int32) (n m : Nat) (τ : Td) (g : Nat) (K : List KE) (i : Nat) (k : Int32) (w : Int64) (j : Nat) (σ0 : PS) : Except (Int32 × Nat) (Nat × PS × Nat) :=
  if opnK k = false then lfM b n m τ k w j i K σ0
  else (hdM b n m τ k j i K σ0).bind fun r =>
    if k = 17 then (rp b n m τ g 3 K r.1 (rwP (40 * m + j) none r.2.1) r.2.2.2.2.1 j (r.2.1.1.1 4) 1 0 0).bind fun q => .ok (q.1, guP q.2.1 (giS σ0 ||| giS q.2.1) (usS σ0 ||| usS q.2.1), q.2.2)
    else (rp b n m τ g 0 ((40 * m + j, r.2.1.1.1 4, 1, r.2.2.2.2.2) :: K) r.1 (rwP (40 * m + j) none r.2.1) 0 0 0 0 0 0).bind fun q =>
      if k = 44 ∨ k = 58 then (if tK b n q.1 = 46 then (adv' b n q.1).bind fun i2 => (rp b n m τ g 0 ((40 * m + j, q.2.1.1.1 4, 2, none) :: K) i2 (rwP (40 * m + j) (some (r.2.1.1.1 4)) q.2.1) 0 0 0 0 0 0).bind fun t => chM b n r.2.2.1 q.2.2 t.2.2 t.1 t.2.1
        else chM b n r.2.2.1 q.2.2 (mkT (trS q.2.1) 0).2 q.1 (trP1 q.2.1 (mkT (trS q.2.1) 0).1))
      else tlM b n m τ k j r.2.2.2.2.1 r.2.2.1 q.2.2 q.1 (K.length + 1) q.2.1
theorem rp_bd {a1 a2 a3 a4 : Nat} {c1 c2 : Int32} : rp b n m τ (g + 1) 2 K i σ a1 a2 a3 a4 c1 c2 = (okK (tK b n i) (tC b n i) K.length τ σ (tP b n i)).bind fun _ => (adv' b n i).bind fun i1 => (bdM b n m τ g K i1 (tK b n i) (tC b n i) (npS σ) (bgP m (tK b n i) (tP b n i) (sqK K) K.length (whK (tK b n i) (tC b n i) τ) σ)).bind fun u => .ok (u.1, fiP m (npS σ) u.2.2 u.2.1, u.2.2) := by
  conv => lhs; unfold rp
  rw [if_neg (show ¬ (2 : Nat) = 0 by decide), if_neg (show ¬ (2 : Nat) = 1 by decide), if_pos (show (2 : Nat) = 2 from rfl)]
  refine congrArg (Except.bind _) (funext fun _ => congrArg (Except.bind _) (funext fun i1 => ?_))
  unfold bdM
  by_cases ko : opnK (tK b n i) = false
  · rw [if_pos ko, if_pos ko]
  · rw [if_neg ko, if_neg ko, ebA]
    refine congrArg (Except.bind _) (funext fun r => ?_)
    by_cases k17 : tK b n i = 17
    · rw [if_pos k17, if_pos k17, ebA]
      rfl
    · rw [if_neg k17, if_neg k17, ebA]
      refine congrArg (Except.bind _) (funext fun q => ?_)
      by_cases kc : tK b n i = 44 ∨ tK b n i = 58
      · rw [if_pos kc, if_pos kc]
        by_cases k46 : tK b n q.1 = 46
        · rw [if_pos k46, if_pos k46, ebA]
          refine congrArg (Except.bind _) (funext fun i2 => ?_)
          rw [ebA]
        · rw [if_neg k46, if_neg k46]
      · rw [if_neg kc, if_neg kc]
theorem hc_facts {a2 a3 : Nat} {r : Nat × PS × Nat × Bool × Nat × Option Int64} (hS : Sto b n s) (hi : i ≤ s) (h0 : tK b n i ≠ 0) (hI : RpI m 2 K σ a2 a3) (ho : okK (tK b n i) (tC b n i) K.length τ σ (tP b n i) = .ok ()) (ha : tK b n (i + 1) ≠ 0) (hop : opnK (tK b n i) = true) (e : hdM b n m τ (tK b n i) (npS σ) (i + 1) K (bgP m (tK b n i) (tP b n i) (sqK K) K.length (whK (tK b n i) (tC b n i) τ) σ) = .ok r) :
    (tK b n r.1 ≠ 0 ∧ r.1 ≤ s ∧ i < r.1) ∧ PsOk m (rwP (40 * m + npS σ) none r.2.1) ∧ (npS (rwP (40 * m + npS σ) none r.2.1) = npS σ + 1 ∧ (rwP (40 * m + npS σ) none r.2.1).1.1 4 = σ.1.1 4 + 1 ∧ r.2.1.1.1 4 = σ.1.1 4) ∧ (K.length ≤ 14 ∧ npS σ < 40) ∧ (1 ≤ (trS σ).1 → (trS σ).1 ≤ (trS r.2.1).1 ∧ r.2.2.2.2.1 < (trS r.2.1).1) ∧ Pv m (40 * m + npS σ) σ (rwP (40 * m + npS σ) none r.2.1) := by
  obtain ⟨hP, hK, hq, -, -, hc⟩ := hI
  obtain ⟨o1, o2, o3, o4, o5⟩ := okK_ok ho
  have n1 : tK b n i ≠ 1 := fun z => o2 (by rw [z]; exact soK_1)
  have hs := hS.lt hi h0 n1
  have hok := hdM_ok (F := True) (m := m) (τ := τ) (k := tK b n i) (j := npS σ) (K := K) (σ := bgP m (tK b n i) (tP b n i) (sqK K) K.length (whK (tK b n i) (tC b n i) τ) σ) hS (i := i + 1) hs ha
  rw [e] at hok
  obtain ⟨q1, q2, q3, hH, haw⟩ := hok
  obtain ⟨n1', n2', n3', -⟩ := bg_n (m := m) (σ := σ) (k := tK b n i) (pl := tP b n i) (q := sqK K) (d := K.length) (wh := whK (tK b n i) (tC b n i) τ)
  have okr : PsOk m r.2.1 := (hP.bg o3 o4 hK (hq (by decide))).hd hH
  have en : npS r.2.1 = npS σ + 1 := by rw [← n1']; unfold npS; rw [hH.1]
  have e4 : r.2.1.1.1 4 = σ.1.1 4 := by rw [hH.1]; exact n2'
  obtain ⟨m1, m2, -⟩ := rw_n (σ := r.2.1) (p := 40 * m + npS σ) (q0 := none)
  have hl14 : K.length ≤ 14 := by
    have : K.length ≠ 15 := fun z => o5 ⟨hop, z⟩
    omega
  have pb : Pv m (40 * m + npS σ) σ (bgP m (tK b n i) (tP b n i) (sqK K) K.length (whK (tK b n i) (tC b n i) τ) σ) := Pv.bg (Nat.le_refl _)
  refine ⟨⟨q3, q2, by omega⟩, okr.rw, ⟨m1.trans en, by rw [m2, e4], e4⟩, ⟨hl14, o3⟩, fun z => ⟨?_, ?_⟩, (pb.tr (Pv.hd hH (Nat.le_refl _))).tr (Pv.rw (fun _ => Nat.le_refl _))⟩
  · have := hH.2.2.2 (by rw [n3']; exact z)
    rw [n3'] at this
    exact this
  · exact haw (by rw [n3']; exact z)
theorem adv_is {i1 : Nat} (h : adv' b n i = .ok i1) : i1 = i + 1 ∧ tK b n (i + 1) ≠ 0 := by
  unfold adv' at h
  by_cases k : tK b n (i + 1) = 0
  · rw [if_pos k] at h; cases h
  · rw [if_neg k] at h; cases h; exact ⟨rfl, k⟩
/-- a part that is read is one more -/
theorem rp_np {a1 a2 a3 a4 : Nat} {c1 c2 : Int32} {r : Nat × PS × Nat} (hS : Sto b n s) (hi : i ≤ s) (h0 : tK b n i ≠ 0) (hI : RpI m 2 K σ a2 a3) (e : rp b n m τ g 2 K i σ a1 a2 a3 a4 c1 c2 = .ok r) : npS σ < npS r.2.1 := by
  cases g with
  | zero => unfold rp at e; cases e
  | succ g =>
    rw [rp_bd] at e
    obtain ⟨x, eo, e⟩ := bind_ok e
    obtain ⟨i1, ea, e⟩ := bind_ok e
    obtain ⟨rfl, ha⟩ := adv_is ea
    obtain ⟨u, eb, e⟩ := bind_ok e
    cases e
    show npS σ < npS u.2.1
    have hn := (bg_n (m := m) (σ := σ) (k := tK b n i) (pl := tP b n i) (q := sqK K) (d := K.length) (wh := whK (tK b n i) (tC b n i) τ)).1
    obtain ⟨o1, o2, o3, o4, o5⟩ := okK_ok eo
    have hs := hS.lt hi h0 (fun z => o2 (by rw [z]; exact soK_1))
    unfold bdM at eb
    by_cases ko : opnK (tK b n i) = false
    · rw [if_pos ko] at eb
      have := lfM_ok (F := True) (m := m) (τ := τ) (k := tK b n i) (w := tC b n i) (j := npS σ) (K := K) (σ := bgP m (tK b n i) (tP b n i) (sqK K) K.length (whK (tK b n i) (tC b n i) τ) σ) hS (i := i + 1) hs ha
      rw [eb] at this
      have e1 := this.2.2.2.1.1
      have : npS u.2.1 = npS σ + 1 := by rw [← hn]; unfold npS; rw [e1]
      omega
    · rw [if_neg ko] at eb
      have hop : opnK (tK b n i) = true := by cases ht : opnK (tK b n i) with
        | false => exact absurd ht ko
        | true => rfl
      obtain ⟨q, eh, eb⟩ := bind_ok eb
      obtain ⟨⟨t0, t1, t2⟩, okw, ⟨m1, m2, m3⟩, ⟨hl, o3⟩, -, prw⟩ := hc_facts hS hi h0 hI eo ha hop eh
      have hc := hI.2.2.2.2.2
      by_cases k17 : tK b n i = 17
      · rw [if_pos k17] at eb
        obtain ⟨y, e3, eb⟩ := bind_ok eb
        cases eb
        have := rp_ok (τ := τ) (m := m) hS g 3 K q.1 (rwP (40 * m + npS σ) none q.2.1) q.2.2.2.2.1 (npS σ) (q.2.1.1.1 4) 1 0 0 (by decide) t1 t0 ⟨okw, hI.2.1, fun z => absurd z (by decide), fun _ => ⟨hl, by rw [m2, m3]; exact Nat.lt_succ_self _, by rw [m1]; exact Nat.lt_succ_self _⟩, fun z => absurd z (by decide), by rw [m2, m1]; omega⟩
        rw [e3] at this
        have := this.2.2.2.1.1.1
        show npS σ < npS y.2.1
        omega
      · rw [if_neg k17] at eb
        obtain ⟨y, e0, eb⟩ := bind_ok eb
        have ok0 := rp_ok (τ := τ) (m := m) hS g 0 ((40 * m + npS σ, q.2.1.1.1 4, 1, q.2.2.2.2.2) :: K) q.1 (rwP (40 * m + npS σ) none q.2.1) 0 0 0 0 0 0 (by decide) t1 t0 ⟨okw, by show K.length + 1 ≤ 15; omega, fun _ => by show q.2.1.1.1 4 < _; rw [m2, m3]; exact Nat.lt_succ_self _, fun z => absurd z (by decide), fun z => absurd z (by decide), by rw [m2, m1]; omega⟩
        rw [e0] at ok0
        obtain ⟨k1, k2, k3, ⟨p1, p2, p3, p4⟩, k5⟩ := ok0
        have hnq : npS σ + 1 ≤ npS y.2.1 := by have := p1.1; rw [m1] at this; exact this
        by_cases kc : tK b n i = 44 ∨ tK b n i = 58
        · rw [if_pos kc] at eb
          by_cases k46 : tK b n y.1 = 46
          · rw [if_pos k46] at eb
            obtain ⟨i2, ea2, eb⟩ := bind_ok eb
            obtain ⟨rfl, ha2⟩ := adv_is ea2
            obtain ⟨w, e2, eb⟩ := bind_ok eb
            obtain ⟨z1, z2, -⟩ := rw_n (σ := y.2.1) (p := 40 * m + npS σ) (q0 := some (q.2.1.1.1 4))
            have ok2 := rp_ok (τ := τ) (m := m) hS g 0 ((40 * m + npS σ, y.2.1.1.1 4, 2, none) :: K) (y.1 + 1) (rwP (40 * m + npS σ) (some (q.2.1.1.1 4)) y.2.1) 0 0 0 0 0 0 (by decide) (hS.lt k2 k3 (by rw [k46]; decide)) ha2 ⟨p2.rw, by show K.length + 1 ≤ 15; omega, fun _ => by show y.2.1.1.1 4 < _; rw [z2]; exact Nat.lt_succ_self _, fun z => absurd z (by decide), fun z => absurd z (by decide), by rw [z2, z1]; omega⟩
            rw [e2] at ok2
            have h1 := ok2.2.2.2.1.1.1
            rw [z1] at h1
            unfold chM at eb
            obtain ⟨i3, -, eb⟩ := bind_ok eb
            cases eb
            show npS σ < npS w.2.1
            omega
          · rw [if_neg k46] at eb
            unfold chM at eb
            obtain ⟨i3, -, eb⟩ := bind_ok eb
            cases eb
            show npS σ < npS y.2.1
            omega
        · rw [if_neg kc] at eb
          have ot := tlM_ok (F := True) (b := b) (n := n) (s := s) (m := m) (τ := τ) (k := tK b n i) (j := npS σ) (aw := q.2.2.2.2.1) (lit := q.2.2.1) (x := y.2.2) (o := K.length + 1) (σ := y.2.1) hS k2
          rw [eb] at ot
          have e1 := ot.2.2.2.1.1
          have : npS u.2.1 = npS y.2.1 := by unfold npS; rw [e1]
          omega
theorem EdP.ext {e : List Nat} {R : Except (Int32 × Nat) (Nat × PS × Nat)} (hE : EdP b n s n0 τ M0 o ps tl t0 Q1 R) (ht : t0 ≤ t1) : EdP b n s n0 τ M0 o (ps ++ e) tl t1 Q1 R := by
  cases R with
  | error y => exact fun M' ps' v t X ⟨e2, h2⟩ hv h1 => hE M' ps' v t X ⟨e ++ e2, by rw [h2, List.append_assoc]⟩ hv (Nat.le_trans ht h1)
  | ok r => exact fun M' ps' C ⟨e2, h2⟩ => hE M' ps' C ⟨e ++ e2, by rw [h2, List.append_assoc]⟩
theorem getD_ext {e : List Nat} {j : Nat} (h : j < ps.length) : (ps ++ e).getD j 0 = ps.getD j 0 := getD_left h
def hK (K : List KE) : Nat := 100 + 6 * (16 - K.length)
end
