/-! the reading of parts keeps to it -/
def wM (md : Nat) : Nat := if md = 0 then 1 else if md = 3 then 2 else 0
def RpI (m md : Nat) (K : List KE) (σ : PS) (a2 a3 : Nat) : Prop := PsOk m σ ∧ K.length ≤ 15 ∧ (md ≤ 2 → sqK K < σ.1.1 4) ∧ (md = 3 → K.length ≤ 14 ∧ a3 < σ.1.1 4 ∧ a2 < npS σ) ∧ (md = 1 → σ.1.1 4 ≤ npS σ) ∧ σ.1.1 4 ≤ npS σ + 1
def RpO (m md : Nat) (σ : PS) (a1 : Nat) (r : PS × Nat) : Prop := Pv m (40 * m + npS σ) σ r.1 ∧ PsOk m r.1 ∧ r.1.1.1 4 ≤ npS r.1 ∧ (1 ≤ (trS σ).1 → (md = 1 ∨ md = 3 → a1 < (trS σ).1) → r.2 < (trS r.1).1)
section
variable {b : Nat → Int32} {n s m : Nat} {τ : Td}
theorem FtOk.fi {α : Type} {F F1 : Prop} {i : Nat} {P Q : Nat → α → Prop} {R : Except (Int32 × Nat) (Nat × α)} (h : FtOk F1 b n s i P R) (hF : F → F1) (k : ∀ j a, i ≤ j → P j a → Q j a) : FtOk F b n s i Q R := by
  cases R with
  | error e => exact fun z => h (hF z)
  | ok r => exact ⟨h.1, h.2.1, h.2.2.1, k _ _ h.1 h.2.2.2⟩
theorem w0 : wM 0 = 1 := rfl
theorem w1 : wM 1 = 0 := rfl
theorem w2 : wM 2 = 0 := rfl
theorem w3 : wM 3 = 2 := rfl
/-- behind the rows: the part is whole -/
theorem RpO.fin {σ σ1 σ2 : PS} {j x a1 : Nat} (hj : j = npS σ) (h1 : Pv m (40 * m + npS σ) σ σ1) (hp : PsOk m σ1) (hq : σ1.1.1 4 ≤ npS σ1) (hN : HdN m j σ1 (σ2, x)) : RpO m 2 σ a1 (fiP m j x σ2, x) := by
  have e : σ2.1.1 = σ1.1.1 := hN.1.1
  refine ⟨(h1.tr (Pv.hd hN.1 (by omega))).tr (Pv.fi (by omega)), (hp.hd hN.1).fi, ?_, fun q _ => hN.2 (Nat.le_trans q (h1.2.2.2.2 q))⟩
  show σ2.1.1 4 ≤ σ2.1.1 0
  rw [e]
  exact hq
theorem rp_ok (hS : Sto b n s) : ∀ (g md : Nat) (K : List KE) (i : Nat) (σ : PS) (a1 a2 a3 a4 : Nat) (c1 c2 : Int32), md ≤ 3 → i ≤ s → tK b n i ≠ 0 → RpI m md K σ a2 a3 → FtOk (6 * (s + 1 - i) + wM md ≤ g) b n s i (fun i' r => RpO m md σ a1 r ∧ (md ≠ 1 → i < i')) (rp b n m τ g md K i σ a1 a2 a3 a4 c1 c2) := by
  intro g
  induction g with
  | zero =>
    intro md K i σ a1 a2 a3 a4 c1 c2 hmd hi h0 hI
    unfold rp
    exact fun z => by omega
  | succ g ih =>
    intro md K i σ a1 a2 a3 a4 c1 c2 hmd hi h0 hI
    obtain ⟨hP, hK, hq, h3, h1, hc⟩ := hI
    rcases (show md = 0 ∨ md = 1 ∨ md = 2 ∨ md = 3 by omega) with rfl | rfl | rfl | rfl
    · -- a row
      unfold rp
      rw [if_pos (show (0 : Nat) = 0 from rfl)]
      have tm : 1 ≤ (trS σ).1 → Ts (trS σ) (mkT (trS σ) 5) := ts_mk
      refine (ih 2 K i (trP1 σ (mkT (trS σ) 5).1) 0 0 0 0 0 0 (by decide) hi h0 ⟨hP, hK, fun _ => hq (by decide), fun z => absurd z (by decide), fun z => absurd z (by decide), hc⟩).bd (fun z => by rw [w0] at z; rw [w2]; omega) (fun j r t1 t2 t3 t4 => ?_)
      obtain ⟨⟨p1, p2, p3, p4⟩, tj⟩ := t4
      have tj := tj (by decide)
      have p1 : Pv m (40 * m + npS σ) (trP1 σ (mkT (trS σ) 5).1) r.1 := p1
      have pv : Pv m (40 * m + npS σ) σ r.1 := (Pv.tree (fun q => (tm q).1)).tr p1
      refine (ih 1 K j (hgP r.1 (mkT (trS σ) 5).2 r.2) (mkT (trS σ) 5).2 0 0 0 0 0 (by decide) t2 t3 ⟨p2, hK, fun _ => Nat.lt_of_lt_of_le (hq (by decide)) pv.2.1, fun z => absurd z (by decide), fun _ => p3, Nat.le_succ_of_le p3⟩).fi (fun z => by rw [w0] at z; rw [w1]; omega) (fun j2 r2 u1 u2 => ?_)
      obtain ⟨⟨v1, v2, v3, v4⟩, -⟩ := u2
      have hge : 40 * m + npS σ ≤ 40 * m + npS (hgP r.1 (mkT (trS σ) 5).2 r.2) := by have := pv.1; show _ ≤ 40 * m + npS r.1; omega
      refine ⟨⟨(pv.tr Pv.hg).tr (v1.less hge), v2, v3, fun q _ => ?_⟩, fun _ => by omega⟩
      have e : (trS (hgP r.1 (mkT (trS σ) 5).2 r.2)).1 = (trS r.1).1 := hgT_n.1
      have q1 : 1 ≤ (trS r.1).1 := Nat.le_trans q (pv.2.2.2.2 q)
      refine v4 (by rw [e]; exact q1) (fun _ => ?_)
      rw [e]
      exact Nat.lt_of_lt_of_le (tm q).2 (p1.2.2.2.2 (Nat.le_trans q (tm q).1))
    · -- more of a row
      unfold rp
      rw [if_neg (show ¬ (1 : Nat) = 0 by decide), if_pos (show (1 : Nat) = 1 from rfl)]
      by_cases k : tK b n i = 13
      · rw [if_pos k]
        have hs := hS.lt hi h0 (by rw [k]; decide)
        refine FtOk.adv hs (fun k1 => ?_)
        refine (ih 2 K (i + 1) σ 0 0 0 0 0 0 (by decide) hs k1 ⟨hP, hK, fun _ => hq (by decide), fun z => absurd z (by decide), fun z => absurd z (by decide), hc⟩).bd (fun z => by rw [w1] at z; rw [w2]; omega) (fun j r t1 t2 t3 t4 => ?_)
        obtain ⟨⟨p1, p2, p3, p4⟩, tj⟩ := t4
        refine (ih 1 K j (hgP r.1 a1 r.2) a1 0 0 0 0 0 (by decide) t2 t3 ⟨p2, hK, fun _ => Nat.lt_of_lt_of_le (hq (by decide)) p1.2.1, fun z => absurd z (by decide), fun _ => p3, Nat.le_succ_of_le p3⟩).fi (fun z => by rw [w1] at z ⊢; omega) (fun j2 r2 u1 u2 => ?_)
        obtain ⟨⟨v1, v2, v3, v4⟩, -⟩ := u2
        have hge : 40 * m + npS σ ≤ 40 * m + npS (hgP r.1 a1 r.2) := by have := p1.1; show _ ≤ 40 * m + npS r.1; omega
        refine ⟨⟨(p1.tr Pv.hg).tr (v1.less hge), v2, v3, fun q hz => ?_⟩, fun z => absurd rfl z⟩
        have e : (trS (hgP r.1 a1 r.2)).1 = (trS r.1).1 := hgT_n.1
        refine v4 (by rw [e]; exact Nat.le_trans q (p1.2.2.2.2 q)) (fun _ => ?_)
        rw [e]
        exact Nat.lt_of_lt_of_le (hz (Or.inl rfl)) (p1.2.2.2.2 q)
      · rw [if_neg k]
        exact ⟨Nat.le_refl _, hi, h0, ⟨Pv.rf, hP, h1 rfl, fun q hz => hz (Or.inl rfl)⟩, fun z => absurd rfl z⟩
    · -- a part
      unfold rp
      rw [if_neg (show ¬ (2 : Nat) = 0 by decide), if_neg (show ¬ (2 : Nat) = 1 by decide), if_pos (show (2 : Nat) = 2 from rfl)]
      cases eo : okK (tK b n i) (tC b n i) K.length τ σ (tP b n i) with
      | error x => exact fun _ => okK_er eo
      | ok x =>
      obtain ⟨o1, o2, o3, o4, o5⟩ := okK_ok (by rw [eo])
      have hs := hS.lt hi h0 (fun z => o2 (by rw [z]; exact soK_1))
      show FtOk _ b n s i _ ((adv' b n i).bind _)
      refine FtOk.adv hs (fun k1 => ?_)
      have hb : Pv m (40 * m + npS σ) σ (bgP m (tK b n i) (tP b n i) (sqK K) K.length (whK (tK b n i) (tC b n i) τ) σ) := Pv.bg (Nat.le_refl _)
      have hbp : PsOk m (bgP m (tK b n i) (tP b n i) (sqK K) K.length (whK (tK b n i) (tC b n i) τ) σ) := hP.bg o3 o4 hK (hq (by decide))
      obtain ⟨n1, n2, n3, -⟩ := bg_n (m := m) (σ := σ) (k := tK b n i) (pl := tP b n i) (q := sqK K) (d := K.length) (wh := whK (tK b n i) (tC b n i) τ)
      generalize bgP m (tK b n i) (tP b n i) (sqK K) K.length (whK (tK b n i) (tC b n i) τ) σ = σ0 at hb hbp n1 n2 n3 ⊢
      by_cases ko : opnK (tK b n i) = false
      · rw [if_pos ko]
        refine (lfM_ok (F := True) hS hs k1).bd (fun _ => trivial) (fun j r t1 t2 t3 t4 => ⟨Nat.le_refl _, t2, t3, RpO.fin rfl hb hbp (by rw [n1, n2]; exact hc) t4, fun _ => by show i < j; omega⟩)
      rw [if_neg ko]
      have hK14 : K.length ≤ 14 := by
        cases ht : opnK (tK b n i) with
        | false => exact absurd ht ko
        | true =>
          have : K.length ≠ 15 := fun z => o5 ⟨ht, z⟩
          omega
      refine (hdM_ok (F := True) hS hs k1).bd (fun _ => trivial) (fun j r t1 t2 t3 t4 => ?_)
      obtain ⟨hH, haw⟩ := t4
      have e4 : r.1.1.1 4 = σ.1.1 4 := by rw [hH.1]; exact n2
      have en : npS r.1 = npS σ + 1 := by rw [← n1]; unfold npS; rw [hH.1]
      have pr : Pv m (40 * m + npS σ) σ r.1 := hb.tr (Pv.hd hH (Nat.le_refl _))
      have okr : PsOk m r.1 := hbp.hd hH
      have prw : Pv m (40 * m + npS σ) σ (rwP (40 * m + npS σ) none r.1) := pr.tr (Pv.rw (fun _ => Nat.le_refl _))
      obtain ⟨m1, m2, m3⟩ := rw_n (σ := r.1) (p := 40 * m + npS σ) (q0 := none)
      by_cases k17 : tK b n i = 17
      · rw [if_pos k17]
        refine (ih 3 K j (rwP (40 * m + npS σ) none r.1) r.2.2.2.1 (npS σ) (r.1.1.1 4) 1 0 0 (by decide) t2 t3 ⟨okr.rw, by omega, fun z => absurd z (by decide), fun _ => ⟨hK14, by rw [m2]; exact Nat.lt_succ_self _, by rw [m1]; omega⟩, fun z => absurd z (by decide), by rw [m2, m1]; omega⟩).bd (fun z => by rw [w2] at z; rw [w3]; omega) (fun j2 q u1 u2 u3 u4 => ?_)
        obtain ⟨⟨v1, v2, v3, v4⟩, -⟩ := u4
        have hge : 40 * m + npS σ ≤ 40 * m + npS (rwP (40 * m + npS σ) none r.1) := by rw [m1]; omega
        have pq : Pv m (40 * m + npS σ) σ q.1 := prw.tr (v1.less hge)
        refine ⟨Nat.le_refl _, u2, u3, ⟨(pq.tr Pv.gu).tr (Pv.fi (Nat.le_refl _)), PsOk.fi (σ := guP q.1 _ _) v2, v3, fun z _ => ?_⟩, fun _ => by show i < j2; omega⟩
        exact v4 (Nat.le_trans z (prw.2.2.2.2 z)) (fun _ => haw (by rw [n3]; exact z))
      rw [if_neg k17]
      refine (ih 0 ((40 * m + npS σ, r.1.1.1 4, 1, r.2.2.2.2) :: K) j (rwP (40 * m + npS σ) none r.1) 0 0 0 0 0 0 (by decide) t2 t3 ⟨okr.rw, by show K.length + 1 ≤ 15; omega, fun _ => by rw [m2]; exact Nat.lt_succ_self _, fun z => absurd z (by decide), fun z => absurd z (by decide), by rw [m2, m1]; omega⟩).bd (fun z => by rw [w2] at z; rw [w0]; omega) (fun j2 q u1 u2 u3 u4 => ?_)
      obtain ⟨⟨v1, v2, v3, v4⟩, -⟩ := u4
      have hge : 40 * m + npS σ ≤ 40 * m + npS (rwP (40 * m + npS σ) none r.1) := by rw [m1]; omega
      have pq : Pv m (40 * m + npS σ) σ q.1 := prw.tr (v1.less hge)
      by_cases kc : tK b n i = 44 ∨ tK b n i = 58
      · rw [if_pos kc]
        by_cases ke : tK b n j2 = 46
        · rw [if_pos ke]
          have hs2 := hS.lt u2 u3 (by rw [ke]; decide)
          refine FtOk.adv hs2 (fun k2 => ?_)
          obtain ⟨x1, x2, x3⟩ := rw_n (σ := q.1) (p := 40 * m + npS σ) (q0 := some (r.1.1.1 4))
          have pq2 : Pv m (40 * m + npS σ) σ (rwP (40 * m + npS σ) (some (r.1.1.1 4)) q.1) := pq.tr (Pv.rw (fun z => by cases z))
          refine (ih 0 ((40 * m + npS σ, q.1.1.1 4, 2, none) :: K) (j2 + 1) (rwP (40 * m + npS σ) (some (r.1.1.1 4)) q.1) 0 0 0 0 0 0 (by decide) hs2 k2 ⟨v2.rw, by show K.length + 1 ≤ 15; omega, fun _ => by rw [x2]; exact Nat.lt_succ_self _, fun z => absurd z (by decide), fun z => absurd z (by decide), by rw [x2, x1]; omega⟩).bd (fun z => by rw [w2] at z; rw [w0]; omega) (fun j3 t y1 y2 y3 y4 => ?_)
          obtain ⟨⟨z1, z2, z3, z4⟩, -⟩ := y4
          have hge2 : 40 * m + npS σ ≤ 40 * m + npS (rwP (40 * m + npS σ) (some (r.1.1.1 4)) q.1) := by have := pq2.1; omega
          have pt : Pv m (40 * m + npS σ) σ t.1 := pq2.tr (z1.less hge2)
          exact (chM_ok (F := True) hS y2).bd (fun _ => trivial) (fun j4 u a1 a2 a3 a4 => ⟨Nat.le_refl _, a2, a3, RpO.fin rfl pt z2 z3 a4, fun _ => by show i < j4; omega⟩)
        · rw [if_neg ke]
          have pt : Pv m (40 * m + npS σ) σ (trP1 q.1 (mkT (trS q.1) 0).1) := pq.tr (Pv.tree (fun _ => mkT_le))
          exact (chM_ok (F := True) hS u2).bd (fun _ => trivial) (fun j4 u a1 a2 a3 a4 => ⟨Nat.le_refl _, a2, a3, RpO.fin rfl pt v2 v3 a4, fun _ => by show i < j4; omega⟩)
      · rw [if_neg kc]
        exact (tlM_ok (F := True) hS u2).bd (fun _ => trivial) (fun j4 u a1 a2 a3 a4 => ⟨Nat.le_refl _, a2, a3, RpO.fin rfl pq v2 v3 a4, fun _ => by show i < j4; omega⟩)
    · -- branches
      unfold rp
      rw [if_neg (show ¬ (3 : Nat) = 0 by decide), if_neg (show ¬ (3 : Nat) = 1 by decide), if_neg (show ¬ (3 : Nat) = 2 by decide)]
      obtain ⟨g1, g2, g3⟩ := h3 rfl
      refine (ih 0 ((40 * m + a2, a3, a4, none) :: K) i (guP σ 0 0) 0 0 0 0 0 0 (by decide) hi h0 ⟨hP, by show K.length + 1 ≤ 15; omega, fun _ => g2, fun z => absurd z (by decide), fun z => absurd z (by decide), hc⟩).bd (fun z => by rw [w3] at z; rw [w0]; omega) (fun j r t1 t2 t3 t4 => ?_)
      obtain ⟨⟨p1, p2, p3, p4⟩, tj⟩ := t4
      have tj := tj (by decide)
      have pv : Pv m (40 * m + npS σ) σ r.1 := Pv.gu.tr p1
      have pb : Pv m (40 * m + npS σ) σ (brP r.1 a2 a1 r.2 c1 c2) := pv.tr Pv.br
      obtain ⟨b1, b2⟩ := br_n (σ := r.1) (j := a2) (a := a1) (x := r.2) (g := c1) (u := c2)
      have bn : npS (brP r.1 a2 a1 r.2 c1 c2) = npS r.1 := by unfold npS; rw [b1]
      by_cases k6 : tK b n j = 6
      · rw [if_pos k6]
        by_cases k8 : a4 = 8
        · rw [if_pos k8]; exact FtOk.err (by decide)
        rw [if_neg k8]
        have hs := hS.lt t2 t3 (by rw [k6]; decide)
        refine FtOk.adv hs (fun k2 => ?_)
        obtain ⟨x1, x2, x3⟩ := rw_n (σ := brP r.1 a2 a1 r.2 c1 c2) (p := 40 * m + a2) (q0 := some a3)
        have pw : Pv m (40 * m + npS σ) σ (rwP (40 * m + a2) (some a3) (brP r.1 a2 a1 r.2 c1 c2)) := pb.tr (Pv.rw (fun z => by cases z))
        have e4 : (brP r.1 a2 a1 r.2 c1 c2).1.1 4 = r.1.1.1 4 := by rw [b1]
        have hn := pv.1
        refine (ih 3 K (j + 1) (rwP (40 * m + a2) (some a3) (brP r.1 a2 a1 r.2 c1 c2)) a1 a2 (r.1.1.1 4) (a4 + 1) (c1 ||| giS r.1) (c2 ||| usS r.1) (by decide) hs k2 ⟨p2.br.rw, hK, fun z => absurd z (by decide), fun _ => ⟨g1, by rw [x2, e4]; exact Nat.lt_succ_self _, by rw [x1, bn]; omega⟩, fun z => absurd z (by decide), by rw [x2, x1, e4, bn]; omega⟩).fi (fun z => by rw [w3] at z ⊢; omega) (fun j2 r2 u1 u2 => ?_)
        obtain ⟨⟨v1, v2, v3, v4⟩, -⟩ := u2
        have hge : 40 * m + npS σ ≤ 40 * m + npS (rwP (40 * m + a2) (some a3) (brP r.1 a2 a1 r.2 c1 c2)) := by rw [x1, bn]; omega
        refine ⟨⟨pw.tr (v1.less hge), v2, v3, fun q hz => ?_⟩, fun _ => by omega⟩
        exact v4 (Nat.le_trans q (pw.2.2.2.2 q)) (fun _ => Nat.lt_of_lt_of_le (hz (Or.inr rfl)) (pw.2.2.2.2 q))
      · rw [if_neg k6]
        refine FtOk_ex hS t2 (by decide) (by decide) (fun _ h5 q6 => ⟨Nat.le_refl _, h5, q6, ⟨pb, p2.br, ?_, fun q hz => ?_⟩, fun _ => by show i < j + 1; omega⟩)
        · show (brP r.1 a2 a1 r.2 c1 c2).1.1 4 ≤ npS (brP r.1 a2 a1 r.2 c1 c2)
          rw [bn, b1]
          exact p3
        · exact Nat.lt_of_lt_of_le (hz (Or.inr rfl)) (pb.2.2.2.2 q)
end
