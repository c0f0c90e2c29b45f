/-! the class's Search, exactly: workState -/
/-- what a module's rows say of its inputs, pauses and end -/
def MoP (M : Mem) (n0 : Nat) (τ : Td) (P : Nat → Nat → Int32) (pz root : Nat) : Prop := (∀ j, j < (inL τ.2.1).length → mAI M (n0 + 4) j = Int32.ofNat ((inL τ.2.1).getD j 0)) ∧ (∀ p, p < pz → mAI M (n0 + 17) p = P (n0 + 17) p ∧ mAI M (n0 + 18) p = P (n0 + 18) p ∧ mAI M (n0 + 19) p = P (n0 + 19) p) ∧ mI M (n0 + 8) 16 = P 28 (root * 20)
/-- whether the if f is so in MOVE v -/
def ifV (il : List Nat) (v f : Nat) : Nat := b01 (Int32.ofNat v >>> (Int32.ofNat il.length &&& 31)) f
def ocW (τ : Td) (n0 : Nat) (P : Nat → Nat → Int32) (pz root : Nat) (p : Int32) (w : Nat → Nat) : OcT := some (shM (fun s => decide (lvN w (sgT τ.1.length s) = 1)) 16, decide (lvN w (P 28 (root * 20)).toNatClampNeg = 1), shM (stB w p (fun q => (P (n0 + 17) q).toNatClampNeg) (fun q => (P (n0 + 18) q).toNatClampNeg) (fun q => (P (n0 + 19) q).toNatClampNeg)) pz)
/-- what a MOVE comes to, by the class's nets -/
def CorW (τ : Td) (n0 : Nat) (R : RMo) (Ψ : Wg) (P : Nat → Nat → Int32) (pz root : Nat) : CoT := fun p b f v o => ∃ w, JF (FcN Ψ.1 (tbR R Ψ) (tvR (inC R (inL τ.2.1) p b f v) (ifV (inL τ.2.1) v) Ψ)) w ∧ (∀ n, FcN Ψ.1 (tbR R Ψ) (tvR (inC R (inL τ.2.1) p b f v) (ifV (inL τ.2.1) v) Ψ) w n = w n) ∧ (((∀ n, n < Ψ.1.length → w n ≠ 2) ∧ o = ocW τ n0 P pz root p w) ∨ (¬ (∀ n, n < Ψ.1.length → w n ≠ 2) ∧ o = none))
theorem b01_bt {x : Int32} {k : Nat} (hk : k < 32) : b01 x k = if btL x k = true then 1 else 0 := by
  unfold b01
  have e : (x >>> (Int32.ofNat k &&& 31)) &&& 1 = 0 ↔ btL x k = false := by
    have e1 : (x >>> (Int32.ofNat k &&& 31)) &&& 1 = 0 ↔ ((x >>> (Int32.ofNat k &&& 31)) &&& 1).toBitVec = (0 : Int32).toBitVec := ⟨fun e => by rw [e], fun e => Int32.toBitVec_inj.mp e⟩
    rw [e1, Int32.toBitVec_and, Int32.toBitVec_shiftRight, BitVec.sshiftRight_eq', sh31 ⟨k, hk⟩]
    have e2 : (1 : Int32).toBitVec = 1#32 := rfl
    have e3 : (0 : Int32).toBitVec = 0#32 := rfl
    rw [e2, e3, BitVec.and_one_eq_setWidth_ofBool_getLsbD, BitVec.getLsbD_sshiftRight]
    unfold btL
    simp only [Nat.add_zero, hk, if_true]
    cases x.toBitVec.getLsbD k <;> decide
  by_cases z : btL x k = true
  · rw [if_neg (fun y => by rw [e.mp y] at z; cases z), if_pos z]
  · rw [if_pos (e.mpr (by cases h : btL x k; rfl; exact absurd h z)), if_neg z]
/-- the lanes' bits are the MOVES' bits -/
theorem la_in : ∀ (k : Fin 6) (i : Fin 5) (l : Fin 32), i.val < k.val → b01 (Int32.ofNat l.val &&& (((1 : Int32) <<< (Int32.ofNat k.val &&& 31)) - 1)) i.val = if btL (laneB.getD i.val 0) l.val = true then 1 else 0 := by decide +kernel
theorem la_if : ∀ (k f : Fin 6) (l : Fin 32), k.val + f.val < 5 → b01 (Int32.ofNat l.val >>> (Int32.ofNat k.val &&& 31)) f.val = if btL (laneB.getD (k.val + f.val) 0) l.val = true then 1 else 0 := by decide +kernel
theorem inL_inj {ro : List Int32} : ∀ j k, j < (inL ro).length → k < (inL ro).length → (inL ro).getD j 0 = (inL ro).getD k 0 → j = k := by
  intro j k hj hk e
  have nd : (inL ro).Nodup := List.Pairwise.filter _ List.nodup_range
  rw [List.getD_eq_getElem?_getD, List.getD_eq_getElem?_getD, List.getElem?_eq_getElem hj, List.getElem?_eq_getElem hk] at e
  exact (List.getElem_inj nd).mp e
theorem inL_ex {ro : List Int32} {s : Nat} (hs : s < ro.length) (e : ro.getD s 0 = 30) : ∃ j, j < (inL ro).length ∧ (inL ro).getD j 0 = s := by
  have m : s ∈ inL ro := by
    unfold inL
    rw [List.mem_filter, List.mem_range]
    exact ⟨hs, decide_eq_true e⟩
  obtain ⟨j, hj, ej⟩ := List.mem_iff_getElem.mp m
  exact ⟨j, hj, by rw [List.getD_eq_getElem?_getD, List.getElem?_eq_getElem hj]; exact ej⟩
theorem dn_mo {Ψ : Wg} {i1 i2 : Nat → Prop} {F F' j : Nat} (h : dnR Ψ i1 F j) (hi : ∀ s, i1 s → i2 s) (hF : F ≤ F') : dnR Ψ i2 F' j := by
  rcases h with y | y | y | ⟨s, y1, y2⟩ | ⟨f, y1, y2⟩
  · exact Or.inl y
  · exact Or.inr (Or.inl y)
  · exact Or.inr (Or.inr (Or.inl y))
  · exact Or.inr (Or.inr (Or.inr (Or.inl ⟨s, hi s y1, y2⟩)))
  · exact Or.inr (Or.inr (Or.inr (Or.inr ⟨f, by omega, y2⟩)))
theorem RnX.zs {C : CoT} {ask : Int32} {t : Nat} : ∀ (k : Nat) (Y : XsT) (b : Bool), RnX C ask t k Y b → ∀ s v, (v < 2 ^ t → k ≤ s * 2 ^ t + v) → Y.2.2 s v = 0
  | 0, Y, b, h, s, v, _ => by rw [h.1]; rfl
  | k + 1, Y, b, ⟨X, o, r, l, c, e⟩, s, v, hk => by
    have z := RnX.zs k X false r s v (fun y => by have := hk y; omega)
    have e1 : Y = (stpX ask X (k / 2 ^ t) (k % 2 ^ t) o).1 := congrArg Prod.fst e
    have ne : ¬ (s = k / 2 ^ t ∧ v = k % 2 ^ t) := fun y => by
      have lt : v < 2 ^ t := by rw [y.2]; exact Nat.mod_lt _ (Nat.two_pow_pos t)
      have := hk lt
      have dm := Nat.div_add_mod k (2 ^ t)
      rw [← y.1, ← y.2, Nat.mul_comm] at dm
      omega
    have pz : ∀ w, pt2 X.2.2 (k / 2 ^ t) (k % 2 ^ t) w s v = 0 := fun w => by
      unfold pt2
      rw [if_neg ne]; exact z
    rw [e1]
    rcases o with _ | ⟨w, en, p⟩
    · exact pz 0
    cases en with
    | true => exact pz w
    | false =>
      cases ef : fdX X.1 p (w &&& ask) with
      | some q => rw [stp_f ef]; exact pz w
      | none =>
        by_cases y : X.1.length < 48
        · rw [stp_g ef y]; exact pz w
        · rw [stp_b ef y]; exact z
section
variable {M M' : Mem} {n0 lc rc cc pb ib b1 b2 ya na pz : Nat} {τ : Td} {σ : PS} {Ψ : Wg} {hl : List Int32} {ps : List Nat}
theorem MoM.ny (h : MoM M n0 τ σ Ψ hl lc rc cc pb ib b1 b2 ya na pz ps) {c : Nat} (hc : c = 4 ∨ c = 17 ∨ c = 18 ∨ c = 19) : n0 + c ≠ ya ∧ n0 + c ≠ na := by
  have mr := h.2.2.2.2.2.2.2.1
  rcases hc with e | e | e | e
  · rw [e]; exact mr _ (Or.inr (Or.inl rfl))
  · rw [e]; exact mr _ (Or.inr (Or.inr (Or.inr (Or.inr (Or.inr (Or.inl rfl))))))
  · rw [e]; exact mr _ (Or.inr (Or.inr (Or.inr (Or.inr (Or.inr (Or.inr (Or.inl rfl)))))))
  · rw [e]; exact mr _ (Or.inr (Or.inr (Or.inr (Or.inr (Or.inr (Or.inr (Or.inr rfl)))))))
end
section
variable {M M' : Mem} {n0 pz root : Nat} {τ : Td} {P : Nat → Nat → Int32} {S : Nat → Prop}
theorem MoP.k (h : MoP M n0 τ P pz root) (r : ∀ c, c = 4 ∨ c = 17 ∨ c = 18 ∨ c = 19 → mAI M' (n0 + c) = mAI M (n0 + c)) (i : mI M' (n0 + 8) 16 = mI M (n0 + 8) 16) : MoP M' n0 τ P pz root := by
  unfold MoP
  rw [r 4 (Or.inl rfl), r 17 (Or.inr (Or.inl rfl)), r 18 (Or.inr (Or.inr (Or.inl rfl))), r 19 (Or.inr (Or.inr (Or.inr rfl))), i]
  exact h
end
section
variable {τ : Td} {m : Nat} {σ : PS} {root : Nat} {γ : Gh} {g0 n0 n1 gw : Nat} {Z0 P : Nat → Nat → Int32} {zp : Int32} {Ψ1 Ψ2 : Wg} {R : RMo} {zn fn y0 q0 : Nat} {lc rc cc pb ib b1 b2 ya0 na0 pz x t n s h : Nat} {hl : List Int32} {ps : List Nat} {a : Nat → Nat} {M : Mem} {Q : Option Value → Mem → Prop} {Y : XsT} {ask : Int32}
set_option maxHeartbeats 2000000 in
theorem S_wkSx (hW : MdW τ m σ root γ g0 n0 gw Z0 P zp Ψ1 Ψ2) (hT : TwT (woS τ m σ γ) R zn fn y0 root q0) (hR : MdR τ m σ R) (h16 : τ.1.length ≤ 16) (hro : τ.2.1.length = τ.1.length) (i4 : (inL τ.2.1).length ≤ 4) (hz : MoZ n0 n1 lc rc cc pb ib b1 b2 ps) (hM : MoM M n0 τ σ Ψ2 hl lc rc cc pb ib b1 b2 ya0 na0 pz ps) (hP : MoP M n0 τ P pz root) (hO : ScO M x n0 t a) (hC : ScC M x t n a) (hY : TiC M x t a Y) (hn : n = Y.1.length) (rn : RnX (CorW τ n0 R Ψ2 P pz root) ask t (s * 2 ^ t) Y false) (ht : (inL τ.2.1).length + (ifS σ).length = t) (hs : s < n) (hx : ∀ r, r = x ∨ rwF a r → ¬ (n0 ≤ r ∧ r < n1) ∧ r ≠ ya0 ∧ r ≠ na0) (hbig : mN M + 2 < mBig) (e2 : mI M x 2 = 0) (e4 : mI M x 4 = ask) (K : ∀ M' n' ya na, fr (SeF n0 ya0 na0 x a) M M' → MoM M' n0 τ σ Ψ2 hl lc rc cc pb ib b1 b2 ya na pz ps → MoP M' n0 τ P pz root → ScO M' x n0 t a → ScC M' x t n' a → n ≤ n' → ((mI M' x 2 = 0 ∧ ∃ Y' : XsT, n' = Y'.1.length ∧ RnX (CorW τ n0 R Ψ2 P pz root) ask t ((s + 1) * 2 ^ t) Y' false ∧ TiC M' x t a Y') ∨ (mI M' x 2 = 1 ∧ ∃ Y', FnX (CorW τ n0 R Ψ2 P pz root) ask t Y' true)) → mI M' x 4 = ask → Ψ2.1.length ≤ mL M' ya → LnN ya0 na0 ya na Ψ2.1.length M M' → (∀ f, f = 11 ∨ f = 12 → mAI M' (a f) = mAI M (a f)) → Q none M') : E (h + 5) mdX5_workState [.ref x, .int (Int32.ofNat s)] M Q := by
  obtain ⟨⟨ox, e0, e1, t5⟩, hf, hd⟩ := id hO
  obtain ⟨p1, p2⟩ := pw_le t5
  have n48 := hC.1.2
  have on0 : ok M n0 3 := hM.1.1.1
  have cs := hM.2.2.2.2.2.1
  have oy : ok M ya0 21 := cs.1.2.1.2.1
  have on : ok M na0 21 := cs.1.2.2.1.2.1
  have oxx : ok M (n0 + 8) 2 := cs.1.1.1
  have osm : ok M (n0 + 22) 8 := hM.1.2.1.1.1
  have kne : ∀ {a b p q : Nat}, ok M a p → ok M b q → p ≠ q → a ≠ b := fun {a b p q} o1 o2 hp e => by
    rw [e] at o1
    exact hp (o1.2.symm.trans o2.2)
  have n25 := hz.1
  obtain ⟨l1, l2, l3, l4⟩ := hW.ln
  have ls : (Int32.ofNat s).toNatClampNeg = s := lt32 (by omega)
  have v48 : ∀ {M1 : Mem} {f : Nat}, ScO M1 x n0 t a → 5 ≤ f → f ≤ 8 → vp_in (Int32.ofNat s) (mL M1 (a f)) := fun hO1 f1 f2 => by rw [hO1.l48 f1 (by omega) (by omega) (by omega)]; exact vp_of (by omega) (by decide)
  obtain ⟨C, eC⟩ : ∃ C, C = CorW τ n0 R Ψ2 P pz root := ⟨_, rfl⟩
  rw [← eC] at rn K
  obtain ⟨⟨y5, y6⟩, -⟩ := hY.2.1 s (by omega)
  have fin : ∀ (f : Bool) (v2 : Int32), f = decide (s = 0) → (v2 = 0 ↔ f = false) → DX5_workState_30 (h + 4) x (Int32.ofNat s) (n0 + 8) (n0 + 8) (stX Y s).1 (stX Y s).2.1 v2 M Q := by
    intro f v2 hff hv2
    unfold DX5_workState_30
    refine ⟨oxx, S_stW (h := h) (R := R) (Is := fun l => inC R (inL τ.2.1) (stX Y s).1 (stX Y s).2.1 f l) (ift := fun l => ifV (inL τ.2.1) l) hW hT cs h16 hbig (fun _ => rfl) (fun _ q hq => b01_bt (by omega)) (fun _ => ?_) (fun M2 ya na Y2 Z2 L2 St T2 _ => ⟨rfl, ?_⟩)⟩
    · show (if (if f = true then 1 else 0) = 1 then 1 else 0) = if v2 = 0 then 0 else 1
      by_cases w : v2 = 0
      · rw [if_pos w, hv2.mp w]; rfl
      · have ft : f = true := by
          cases hh : f with
          | true => rfl
          | false => exact absurd (hv2.mpr hh) w
        rw [if_neg w, ft]; rfl
    obtain ⟨tv, etv⟩ : ∃ tv : Nat → Nat → Nat, tv = fun l => tvR (inC R (inL τ.2.1) (stX Y s).1 (stX Y s).2.1 f l) (ifV (inL τ.2.1) l) Ψ2 := ⟨_, rfl⟩
    have T2 : TdI Ψ2.1.length (tbR R Ψ2) tv (dnR Ψ2 (fun _ => False) 0) Y2 Z2 := by rw [etv]; exact T2
    have F2 := St.1
    have ng : LnN ya0 na0 ya na Ψ2.1.length M M2 := St.2.2
    have b2' : mN M2 < mBig := by rcases ng with ⟨-, -, e, -⟩ | ⟨-, -, e, -⟩ <;> omega
    have yl : (ya = ya0 ∧ na = na0) ∨ (mN M ≤ ya ∧ mN M ≤ na ∧ ya ≠ na) := by
      rcases ng with ⟨e, e', -⟩ | ⟨e, e', -⟩
      · exact Or.inl ⟨e, e'⟩
      · exact Or.inr ⟨by omega, by omega, by omega⟩
    have rn0 := F2.2 n0 on0.1 (fun z => by
      rcases z with z | z | z
      · omega
      · exact kne on0 oy (by decide) z
      · exact kne on0 on (by decide) z)
    have rsm := F2.2 (n0 + 22) osm.1 (fun z => by
      rcases z with z | z | z
      · omega
      · exact kne osm oy (by decide) z
      · exact kne osm on (by decide) z)
    have M2' : MoM M2 n0 τ σ Ψ2 hl lc rc cc pb ib b1 b2 ya na pz ps := by
      refine hM.mu (ow := fun _ => n0) (S := noP) hz (fun _ _ _ => rfl) (fun a z => z.elim) (fun a z => z.elim) (by omega) ⟨F2.more (fun a _ z => ?_), ⟨rn0.1, fun f _ => by rw [rn0.2.2.1]⟩, ⟨St.2.1.1, St.2.1.2.2, L2.1.2.1.1, L2.1.2.2.1.1⟩, ⟨fun f _ _ => by rw [rsm.1], rsm.2.2.1⟩, ⟨L2.1.2.1.2.1, L2.1.2.2.1.2.1, L2.1.2.1.2.2.2, L2.1.2.2.1.2.2.2, fun _ => L2.1.2.2.1.2.2.1⟩, yl⟩
      rcases z with z | z | z
      · exact Or.inr (Or.inr (Or.inr (Or.inl z)))
      · exact Or.inr (Or.inr (Or.inr (Or.inr (Or.inl z))))
      · exact Or.inr (Or.inr (Or.inr (Or.inr (Or.inr (Or.inl z)))))
    -- the search's own cells are apart
    have okr : ∀ {r : Nat}, r = x ∨ rwF a r → ∃ q, ok M r q ∧ (q = 7 ∨ q = 21) := fun {r} z => by
      rcases z with z | ⟨f, f1, f2, z⟩
      · exact ⟨7, by rw [z]; exact ox, Or.inl rfl⟩
      · exact ⟨21, by rw [z]; exact (hf f f1 f2).2.1, Or.inr rfl⟩
    have nyr : ∀ {r : Nat}, r = x ∨ rwF a r → r ≠ ya ∧ r ≠ na := fun {r} z => by
      obtain ⟨q, o, -⟩ := okr z
      obtain ⟨-, h1, h2⟩ := hx r z
      have := o.1
      rcases yl with ⟨e, e'⟩ | ⟨e, e', -⟩
      · rw [e, e']; exact ⟨h1, h2⟩
      · omega
    have rS : ∀ {r : Nat}, r = x ∨ rwF a r → sameRow M M2 r := fun {r} z => by
      obtain ⟨q, o, -⟩ := okr z
      obtain ⟨h0, h1, h2⟩ := hx r z
      exact F2.2 r o.1 (fun y => by
        rcases y with y | y | y
        · exact h0 (by omega)
        · exact h1 y
        · exact h2 y)
    have O2 : ScO M2 x n0 t a := by
      have rx := rS (r := x) (Or.inl rfl)
      refine ⟨⟨ok_E ox F2.1, by rw [rx.2.2.1]; exact e0, by rw [rx.1]; exact e1, t5⟩, fun f f1 f2 => ⟨by rw [rx.2.2.1]; exact (hf f f1 f2).1, ok_E (hf f f1 f2).2.1 F2.1, by rw [(F2.1.2.2 _ (hf f f1 f2).2.1.1).2]; exact (hf f f1 f2).2.2⟩, hd⟩
    have Y2' : TiC M2 x t a Y := hY.k (by rw [(rS (r := x) (Or.inl rfl)).1]) (fun f f1 f2 => (rS (Or.inr ⟨f, f1, by omega, rfl⟩)).2.2.2.1)
    have q42 : mI M2 x 4 = ask := by rw [(rS (r := x) (Or.inl rfl)).1]; exact e4
    have rP : ∀ c, c = 4 ∨ c = 17 ∨ c = 18 ∨ c = 19 → mAI M2 (n0 + c) = mAI M (n0 + c) := fun c hc => by
      have oc : ok M (n0 + c) 21 := by
        rcases hc with e | e | e | e
        · rw [e]; exact hM.1.2.2.2.1
        · rw [e]; exact hM.2.2.2.2.2.2.1.2.1.2.1
        · rw [e]; exact hM.2.2.2.2.2.2.1.2.2.1.2.1
        · rw [e]; exact hM.2.2.2.2.2.2.1.2.2.2.1.2.1
      exact (F2.2 _ oc.1 (fun z => by
        rcases z with z | z | z
        · omega
        · exact (hM.ny hc).1 z
        · exact (hM.ny hc).2 z)).2.2.2.1
    have P2 : MoP M2 n0 τ P pz root := hP.k rP (by rw [St.2.1.1])
    have C2 : ScC M2 x t n a := hC.k (by rw [(rS (r := x) (Or.inl rfl)).1]) (rS (Or.inr ⟨7, by decide, by decide, rfl⟩)).2.2.2.1 (rS (Or.inr ⟨9, by decide, by decide, rfl⟩)).2.2.2.1
    have b22 : mI M2 x 2 = 0 := by rw [(rS (r := x) (Or.inl rfl)).1]; exact e2
    -- what telling and settling leave alone
    have stA : ∀ {M3 : Mem}, ArF (fun c => c = ya ∨ c = na) M2 M3 → MoM M3 n0 τ σ Ψ2 hl lc rc cc pb ib b1 b2 ya na pz ps ∧ ScO M3 x n0 t a ∧ ScC M3 x t n a ∧ mI M3 x 2 = 0 ∧ (TiC M3 x t a Y ∧ mI M3 x 4 = ask ∧ MoP M3 n0 τ P pz root ∧ ∀ f, f = 11 ∨ f = 12 → mAI M3 (a f) = mAI M (a f)) := fun {M3} k => by
      refine ⟨M2'.ar hz b2' k, ⟨⟨ok_E O2.1.1 k.e, by rw [k.2.1.2.2.1]; exact O2.1.2.1, by rw [k.2.1.1]; exact O2.1.2.2.1, t5⟩, fun f f1 f2 => ⟨by rw [k.2.1.2.2.1]; exact (O2.2.1 f f1 f2).1, ok_E (O2.2.1 f f1 f2).2.1 k.e, by rw [k.1.2.2.2]; exact (O2.2.1 f f1 f2).2.2⟩, hd⟩, C2.k (by rw [k.2.1.1]) (k.2.2 _ (fun z => ?_)) (k.2.2 _ (fun z => ?_)), by rw [k.2.1.1]; exact b22, Y2'.k (by rw [k.2.1.1]) (fun f f1 f2 => k.2.2 _ (fun z => ?_)), by rw [k.2.1.1]; exact q42, P2.k (fun c hc => k.2.2 _ (fun z => ?_)) (by rw [k.2.1.1]), fun f f11 => (k.2.2 _ (fun z => ?_)).trans (rS (Or.inr ⟨f, by omega, by omega, rfl⟩)).2.2.2.1⟩
      · have := nyr (r := a 7) (Or.inr ⟨7, by decide, by decide, rfl⟩)
        exact z.elim this.1 this.2
      · have := nyr (r := a 9) (Or.inr ⟨9, by decide, by decide, rfl⟩)
        exact z.elim this.1 this.2
      · have := nyr (r := a f) (Or.inr ⟨f, f1, by omega, rfl⟩)
        exact z.elim this.1 this.2
      · exact z.elim (M2'.ny hc).1 (M2'.ny hc).2
      · have := nyr (r := a f) (Or.inr ⟨f, by omega, by omega, rfl⟩)
        exact z.elim this.1 this.2
    -- MOVE by MOVE
    have l131 : ∀ M3 Y3 Z3, ArF (fun c => c = ya ∨ c = na) M2 M3 → CtL M3 (n0 + 8) lc rc ya na (n0 + 20) (n0 + 15) ib τ.1.length (ifS σ) Ψ2.1 Y3 Z3 → TdI Ψ2.1.length (tbR R Ψ2) tv (dnR Ψ2 (fun q => ∃ j, j < (inL τ.2.1).length ∧ q = (inL τ.2.1).getD j 0) (ifS σ).length) Y3 Z3 → DX5_workState_131 (h + 4) x (Int32.ofNat s) (n0 + 8) M3 Q := by
      intro M3 Y3 Z3 k3 L3 V3
      unfold DX5_workState_131
      refine ⟨L3.1.1.1, S_settle (h := h + 1) (hW.nts hT hR cs.2.1 L3.1.1.2.2.2.2.2.2.2.2.1) L3.1 (V3.j (fun j hj tb => ?_)) (fun M4 Y4 Z4 L4 A4 J4 X4 _ => ⟨rfl, S_stuck (h := h + 3) L4 (fun r4 hr4 _ => ⟨r4, rfl, ?_⟩)⟩)⟩
      · exact dn_mo (hW.al hT hR hj tb) (fun q hq => by
          obtain ⟨k, k1, k2⟩ := inL_ex (ro := τ.2.1) (s := q) (by rw [hro]; exact hq.1) hq.2
          exact ⟨k, k1, k2.symm⟩) (Nat.le_refl _)
      have L4' : CtL M4 (n0 + 8) lc rc ya na (n0 + 20) (n0 + 15) ib τ.1.length (ifS σ) Ψ2.1 Y4 Z4 := L3.ar A4 L4
      have k4 : ArF (fun c => c = ya ∨ c = na) M2 M4 := k3.tr A4
      obtain ⟨Mo4, O4, C4, b4, ⟨T4, q4, P4, g4⟩⟩ := stA k4
      have bg4 : mN M4 < mBig := by rw [k4.1.1]; exact b2'
      have k4n : ∀ {r : Nat}, r = x ∨ rwF a r → mK M4 r ≠ 0 := fun {r} z => by
        obtain ⟨q, o, hq⟩ := okr z
        rw [k4.1.2.2.1, (F2.1.2.2 r o.1).1, o.2]
        rcases hq with e | e <;> rw [e] <;> decide
      have FK4 : fr (SeF n0 ya0 na0 x a) M M4 := (F2.more (fun c _ z => by
        rcases z with z | z | z
        · exact Or.inl z
        · exact Or.inr (Or.inl z)
        · exact Or.inr (Or.inr (Or.inl z)))).tr (S1 := fun c => c = ya ∨ c = na) ⟨k4.e, fun c _ hc => ⟨by rw [k4.2.1.1], by rw [k4.2.1.2.1], by rw [k4.2.1.2.2.1], k4.2.2 c hc, by rw [k4.2.1.2.2.2.1], by rw [k4.2.1.2.2.2.2]⟩⟩ (fun c hc z => by
        rcases yl with ⟨e, e'⟩ | ⟨e, e', -⟩
        · rcases z with z | z
          · exact Or.inr (Or.inl (z.trans e))
          · exact Or.inr (Or.inr (Or.inl (z.trans e')))
        · omega)
      have izx : ∀ {r q : Nat}, ok M4 r q → inZ n0 n1 r → ¬ (r = x ∨ rwF a r) := fun {r q} o hi z => by
        rcases hi with hi | hi
        · exact (hx r z).1 hi
        · have := o.1; omega
      have st : ∀ {Mi : Mem}, GmF x f23 (rwF a) M4 Mi → MoM Mi n0 τ σ Ψ2 hl lc rc cc pb ib b1 b2 ya na pz ps ∧ CtL Mi (n0 + 8) lc rc ya na (n0 + 20) (n0 + 15) ib τ.1.length (ifS σ) Ψ2.1 Y4 Z4 ∧ ScO Mi x n0 t a ∧ MoP Mi n0 τ P pz root ∧ mI Mi x 4 = ask := fun {Mi} k => by
        have i25 : ∀ c, c < 25 → inZ n0 n1 (n0 + c) := fun c hc => Or.inl ⟨by omega, by omega⟩
        refine ⟨Mo4.out hz bg4 k.fr (fun r z => (hx r z).1) (fun r z => k4n z), L4'.fr k.fr (izx L4'.1.1.1 (i25 8 (by decide))) (izx L4'.1.1.2.2.1 hz.2.1) (izx L4'.1.1.2.2.2.2.1 hz.2.2.1) (fun z => (nyr z).1 rfl) (fun z => (nyr z).2 rfl) (izx L4'.2.1.2.1 (i25 20 (by decide))) (izx L4'.2.2.2.1.ok1 (i25 15 (by decide))) (fun o => izx o hz.2.2.2.2.2.1) (fun c _ z => k4n z), O4.gm k (by decide), P4.k (fun c hc => k.2.2.2.2 _ (fun z => (hx _ (Or.inr z)).1 (by omega))) (by rw [k.2.2.1 _ (fun z => (hx x (Or.inl rfl)).1 (by rw [← z]; omega))]), by rw [k.2.2.2.1 4 (by decide)]; exact q4⟩
      have KK : ∀ Mi ni, GmF x f23 (rwF a) M4 Mi → ScC Mi x t ni a → n ≤ ni → ((mI Mi x 2 = 0 ∧ ∃ Y' : XsT, ni = Y'.1.length ∧ RnX C ask t ((s + 1) * 2 ^ t) Y' false ∧ TiC Mi x t a Y') ∨ (mI Mi x 2 = 1 ∧ ∃ Y', FnX C ask t Y' true)) → (∀ f, f = 11 ∨ f = 12 → mAI Mi (a f) = mAI M4 (a f)) → Q none Mi := fun Mi ni k hCi hn hb gi => by
        obtain ⟨Mo, Lo, Oo, Po, qo⟩ := st k
        refine K Mi ni ya na (FK4.tr k.fr (fun c _ z => Or.inr (Or.inr (Or.inr z)))) Mo Po Oo hCi hn hb qo Lo.1.2.1.2.2.1 ?_ (fun f f11 => (gi f f11).trans (g4 f f11))
        unfold LnN
        rw [k.1.1, k.1.2.1, k4.1.1, k4.1.2.1]
        exact ng
      -- what the lane v says
      have cor : ∀ v, v < 32 → ∀ p, p = (stX Y s).1 → C p (stX Y s).2.1 (decide (s = 0)) v (if btL r4 v = true then none else ocW τ n0 P pz root p (laV Ψ2.1.length Y4 Z4 v)) := fun v hv p ep => by
        rw [eC, ep]
        have j := (J4.2 v hv).1
        have fx := X4 v hv
        unfold LnX at fx
        rw [etv, hff] at j fx
        refine ⟨_, j, fx, ?_⟩
        by_cases z : btL r4 v = true
        · obtain ⟨k, k1, k2⟩ := (hr4 v hv).mp z
          exact Or.inr ⟨fun y => y k k1 k2, if_pos z⟩
        · exact Or.inl ⟨fun k k1 k2 => z ((hr4 v hv).mpr ⟨k, k1, k2⟩), if_neg z⟩
      -- beyond
      have bey : ∀ Mi ni v, GmF x f23 (rwF a) M4 Mi → ScC Mi x t ni a → n ≤ ni → mI Mi x 2 = 1 → (∃ Y', FnX C ask t Y' true) → (∀ f, f = 11 ∨ f = 12 → mAI Mi (a f) = mAI M4 (a f)) → T (h + 5) mdX5_workState 143 [(0, .ref x), (1, .int (Int32.ofNat s)), (2, .ref (n0 + 8)), (3, .int r4), (4, .int (Int32.ofNat v))] [] Mi Q := by
        intro Mi ni v ki Ci hni hb hf gi
        obtain ⟨-, -, Oi, -, -⟩ := st ki
        refine VX5_workState_143 (h := h + 4) ?_
        unfold DX5_workState_143 DX5_workState_264
        exact ⟨Oi.1.1, fun _ => KK Mi ni ki Ci hni (Or.inr ⟨hb, hf⟩) gi, fun _ => ⟨fun _ => KK Mi ni ki Ci hni (Or.inr ⟨hb, hf⟩) gi, fun z => by rw [hb] at z; exact absurd z (by decide)⟩⟩
      have l143 : ∀ d v Mi Yi, v + d = 2 ^ t → GmF x f23 (rwF a) M4 Mi → ScC Mi x t Yi.1.length a → n ≤ Yi.1.length → mI Mi x 2 = 0 → RnX C ask t (s * 2 ^ t + v) Yi false → TiC Mi x t a Yi → (stX Yi s = stX Y s) → (∀ f, f = 11 ∨ f = 12 → mAI Mi (a f) = mAI M4 (a f)) → T (h + 5) mdX5_workState 143 [(0, .ref x), (1, .int (Int32.ofNat s)), (2, .ref (n0 + 8)), (3, .int r4), (4, .int (Int32.ofNat v))] [] Mi Q := by
        intro d
        induction d with
        | zero =>
          intro v Mi Yi hv ki Ci hni hb rni Ti se gi
          have ev : v = 2 ^ t := hv
          subst ev
          obtain ⟨-, -, Oi, -, -⟩ := st ki
          refine VX5_workState_143 (h := h + 4) ?_
          unfold DX5_workState_143 DX5_workState_264
          rw [Oi.1.2.2.1]
          exact ⟨Oi.1.1, fun _ => KK Mi _ ki Ci hni (Or.inl ⟨hb, Yi, rfl, by rw [Nat.succ_mul]; exact rni, Ti⟩) gi, fun z => absurd Int32.le_rfl z⟩
        | succ d ih =>
          intro v Mi Yi hv ki Ci hni hb rni Ti se gi
          obtain ⟨Moi, Li, Oi, Pi, qi⟩ := st ki
          have ni48 := Ci.1.2
          have vt : v < 2 ^ t := by omega
          obtain ⟨i1, i2, i3⟩ := ix_mv (s := s) (v := v) t5 (by omega) (by omega)
          have l1' : (Int32.ofNat (s * 2 ^ t + v)).toNatClampNeg = s * 2 ^ t + v := lt32 (by omega)
          have vat : ∀ {Mj : Mem} {f : Nat}, ScO Mj x n0 t a → f = 9 ∨ f = 10 → vp_in (Int32.ofNat (s * 2 ^ t + v)) (mL Mj (a f)) := fun hO1 hf9 => by rw [hO1.lm hf9]; exact vp_of i2 (by omega)
          have v32 : v < 32 := by omega
          have okY := RnX.ok _ _ _ rni
          -- one MOVE more
          have cv : ∀ oc, oc = (if btL r4 v = true then none else ocW τ n0 P pz root (stX Yi s).1 (laV Ψ2.1.length Y4 Z4 v)) → RnX C ask t (s * 2 ^ t + v + 1) (stpX ask Yi s v oc).1 (stpX ask Yi s v oc).2 := fun oc eoc => by
            refine rni.nx (by omega) vt ?_
            rw [eoc]
            have := cor v v32 (stX Yi s).1 (by rw [se])
            rw [se]
            rw [se] at this
            exact this
          have nx : ∀ Mj Yj, GmF x f23 (rwF a) M4 Mj → ScC Mj x t Yj.1.length a → n ≤ Yj.1.length → mI Mj x 2 = 0 → RnX C ask t (s * 2 ^ t + v + 1) Yj false → TiC Mj x t a Yj → stX Yj s = stX Y s → (∀ f, f = 11 ∨ f = 12 → mAI Mj (a f) = mAI M4 (a f)) → T (h + 5) mdX5_workState 143 [(0, .ref x), (1, .int (Int32.ofNat s)), (2, .ref (n0 + 8)), (3, .int r4), (4, .int (Int32.ofNat (v + 1)))] [] Mj Q := fun Mj Yj kj Cj hnj hbj rnj Tj sj gj => ih (v + 1) Mj Yj (by omega) kj Cj hnj hbj rnj Tj sj gj
          refine VX5_workState_143 (h := h + 4) ?_
          unfold DX5_workState_143 DX5_workState_264 DX5_workState_258
          rw [Oi.1.2.2.1, i1, l1', succ32, ub_0 v32]
          refine ⟨Oi.1.1, fun z => absurd ((le32 (by omega) (by omega)).mp z) (by omega), fun _ => ⟨fun nb => absurd hb nb, fun _ => ⟨fun zs => ?_, fun zs => ⟨a 9, (Oi.2.1 9 (by decide) (by decide)).1, (Oi.2.1 9 (by decide) (by decide)).2.1, vat Oi (Or.inl rfl), fun M21 e21 => ?_⟩⟩⟩⟩
          · have ns : ¬ btL r4 v = true := by rw [zs]; decide
            refine ⟨a 10, (Oi.2.1 10 (by decide) (by decide)).1, Li.1.1.1, S_shown (h := h + 1) (g := sgT τ.1.length) Li.1 J4.1 v32 Li.2.1.1 Li.2.1.2.1 Li.2.1.2.2.1 (fun q hq => ⟨Li.2.1.2.2.2.1 q hq, ?_⟩) (fun _ => ⟨_, rfl, (Oi.2.1 10 (by decide) (by decide)).2.1, vat Oi (Or.inr rfl), fun M7 e7 => ?_⟩)⟩
            · unfold sgT
              by_cases y : q < τ.1.length
              · rw [if_pos y]; omega
              · rw [if_neg y]; omega
            obtain ⟨wv, ewv⟩ : ∃ wv, wv = laV Ψ2.1.length Y4 Z4 v := ⟨_, rfl⟩
            obtain ⟨sh, esh⟩ : ∃ sh, sh = shM (fun s => decide (lvN wv (sgT τ.1.length s) = 1)) 16 := ⟨_, rfl⟩
            rw [← ewv, ← esh] at e7
            have k7 : GmF x f23 (rwF a) M4 M7 := ki.tr (GmF.a ⟨10, by decide, by decide, rfl⟩ e7)
            obtain ⟨Mo7, L7, O7, P7, q7⟩ := st k7
            have ne : ∀ {f g : Nat}, 5 ≤ f → f ≤ 12 → 5 ≤ g → g ≤ 12 → f ≠ g → a f ≠ a g := fun f1 f2 g1 g2 h => hO.ne f1 f2 g1 g2 h
            have C7 : ScC M7 x t Yi.1.length a := Ci.k (by rw [e7]; rfl) (aiN e7 (ne (by decide) (by decide) (by decide) (by decide) (by decide))) (aiN e7 (ne (by decide) (by decide) (by decide) (by decide) (by decide)))
            have b7 : mI M7 x 2 = 0 := by rw [e7]; exact hb
            have T7 : TiC M7 x t a (Yi.1, Yi.2.1, pt2 Yi.2.2 s v sh) := Ti.sh Oi vt e7
            have g7 : ∀ f, f = 11 ∨ f = 12 → mAI M7 (a f) = mAI M4 (a f) := fun f f11 => (aiN e7 (ne (by omega) (by omega) (by decide) (by decide) (by omega))).trans (gi f f11)
            have ce := Mo7.2.2.2.2.2.2.1
            obtain ⟨⟨a1, a2⟩, ⟨b1', b2', b3', b4'⟩, ⟨d1, d2, d3, d4⟩, ⟨e1', e2', e3', e4'⟩, ⟨q16, q1, q2⟩⟩ := id ce
            have hl5 := L7.1.2.2.2.2.2
            have eend : (P 28 (root * 20)).toNatClampNeg = q16 := by rw [← P7.2.2, q2]; exact lt32 (by omega)
            rw [q2]
            -- a MOVE's lead is written
            have f257 : ∀ (r : Int32) Mj Yj, GmF x f23 (rwF a) M4 Mj → ScC Mj x t Yj.1.length a → n ≤ Yj.1.length → mI Mj x 2 = 0 → TiC Mj x t a Yj → (r < 0 ∨ ∃ q, q < 48 ∧ r = Int32.ofNat q) → RnX C ask t (s * 2 ^ t + v + 1) (Yj.1, pt2 Yj.2.1 s v r, Yj.2.2) false → stX Yj s = stX Y s → (∀ f, f = 11 ∨ f = 12 → mAI Mj (a f) = mAI M4 (a f)) → DX5_workState_257 (h + 4) x (Int32.ofNat s) (n0 + 8) r4 (Int32.ofNat v) (a 9) (Int32.ofNat (s * 2 ^ t + v)) r Mj Q := by
              intro r Mj Yj kj Cj hnj hbj Tj hr rnj sj gj
              obtain ⟨-, -, Oj, -, -⟩ := st kj
              unfold DX5_workState_257 DX5_workState_258
              rw [succ32, l1']
              refine ⟨(Oj.2.1 9 (by decide) (by decide)).2.1, vat Oj (Or.inl rfl), fun M2' e2' => ?_⟩
              exact nx M2' (Yj.1, pt2 Yj.2.1 s v r, Yj.2.2) (kj.tr (GmF.a ⟨9, by decide, by decide, rfl⟩ e2')) (Cj.nx Oj hr e2') hnj (by rw [e2']; exact hbj) rnj (Tj.ld Oj vt e2') sj (fun f f11 => (aiN e2' (ne (by omega) (by omega) (by decide) (by decide) (by omega))).trans (gj f f11))
            refine S_isOn (h := h + 2) L7.1 J4.1 q1 v32 (fun _ => ⟨_, rfl, a 9, (O7.2.1 9 (by decide) (by decide)).1, fun z9 => ?_, fun z9 => ?_⟩)
            · -- it goes on
              have nend : decide (lvN wv (P 28 (root * 20)).toNatClampNeg = 1) = false := by
                rw [decide_eq_false_iff_not, eend, ewv]
                intro y
                rw [if_pos y] at z9
                exact absurd z9 (by decide)
              have e5 : mAI M7 (a 5) s = (stX Yi s).1 := by rw [aiN e7 (ne (by decide) (by decide) (by decide) (by decide) (by decide))]; exact (Ti.2.1 s (by omega)).1.1
              refine ⟨a 5, (O7.2.1 5 (by decide) (by decide)).1, (O7.2.1 5 (by decide) (by decide)).2.1, v48 O7 (by decide) (by decide), ?_⟩
              rw [ls, e5]
              refine S_setB (h := h + 1) (l := v) (g := fun p => (P (n0 + 17) p).toNatClampNeg) (s := fun p => (P (n0 + 18) p).toNatClampNeg) (k := fun p => (P (n0 + 19) p).toNatClampNeg) L7.1 J4.1 v32 a1 a2 ⟨b1', b2', b3'⟩ ⟨d1, d2, d3⟩ ⟨e1', e2', e3'⟩ (fun p hp => by rw [← (P7.2.1 p hp).1]; exact of_cl hl5 (b4' p hp)) (fun p hp => by rw [← (P7.2.1 p hp).2.1]; exact of_cl hl5 (d4 p hp)) (fun p hp => by rw [← (P7.2.1 p hp).2.2]; exact of_cl hl5 (e4' p hp)) (fun _ => ⟨_, rfl, a 10, (O7.2.1 10 (by decide) (by decide)).1, (O7.2.1 10 (by decide) (by decide)).2.1, vat O7 (Or.inr rfl), ?_⟩)
              obtain ⟨pp, epp⟩ : ∃ pp, pp = shM (stB wv (stX Yi s).1 (fun q => (P (n0 + 17) q).toNatClampNeg) (fun q => (P (n0 + 18) q).toNatClampNeg) (fun q => (P (n0 + 19) q).toNatClampNeg)) pz := ⟨_, rfl⟩
              rw [← ewv, ← epp, show mAI M7 (a 10) (s * 2 ^ t + v) = sh from by rw [wr_j e7, if_pos rfl]]
              have eoc : (if btL r4 v = true then none else ocW τ n0 P pz root (stX Yi s).1 (laV Ψ2.1.length Y4 Z4 v)) = some (sh, false, pp) := by
                rw [if_neg ns, ← ewv]
                unfold ocW
                rw [← esh, nend, ← epp]
              have c9 := cv _ eoc.symm
              refine S_rchx (h := h + 3) (Y := (Yi.1, Yi.2.1, pt2 Yi.2.2 s v sh)) O7 C7 T7 rfl q7 (by omega) (fun q fd _ => ⟨_, rfl, ?_⟩) (fun M17 fd l48 k17 C17 T17 b17 g17 _ => ⟨_, rfl, ?_⟩) (fun M17 fd l48 k17 C17 b17 g17 _ => ⟨_, rfl, ?_⟩)
              · have fd : fdX Yi.1 pp (sh &&& ask) = some q := fd
                obtain ⟨f1, f2, -⟩ := fnX_s _ _ _ fd
                have es : stpX ask Yi s v (some (sh, false, pp)) = ((Yi.1, pt2 Yi.2.1 s v (Int32.ofNat q), pt2 Yi.2.2 s v sh), false) := stp_f fd
                rw [es] at c9
                exact f257 (Int32.ofNat q) M7 (Yi.1, Yi.2.1, pt2 Yi.2.2 s v sh) k7 C7 hni b7 T7 (Or.inr ⟨q, by omega, rfl⟩) c9 se g7
              · have fd : fdX Yi.1 pp (sh &&& ask) = none := fd
                have l48 : Yi.1.length < 48 := l48
                have es : stpX ask Yi s v (some (sh, false, pp)) = ((Yi.1 ++ [(pp, sh &&& ask, s, v)], pt2 Yi.2.1 s v (Int32.ofNat Yi.1.length), pt2 Yi.2.2 s v sh), false) := stp_g fd l48
                rw [es] at c9
                have lnY : (Yi.1 ++ [(pp, sh &&& ask, s, v)]).length = Yi.1.length + 1 := by rw [List.length_append]; rfl
                refine f257 (Int32.ofNat Yi.1.length) M17 (Yi.1 ++ [(pp, sh &&& ask, s, v)], Yi.2.1, pt2 Yi.2.2 s v sh) (k7.tr k17) (by show ScC M17 x t (Yi.1 ++ [(pp, sh &&& ask, s, v)]).length a; rw [lnY]; exact C17) (by show n ≤ (Yi.1 ++ [(pp, sh &&& ask, s, v)]).length; omega) (by rw [b17]; exact b7) T17 (Or.inr ⟨Yi.1.length, l48, rfl⟩) c9 ?_ (fun f f11 => (g17 f f11).trans (g7 f f11))
                rw [stX_l (by omega)]; exact se
              · have fd : fdX Yi.1 pp (sh &&& ask) = none := fd
                have l48 : ¬ Yi.1.length < 48 := l48
                have es : stpX ask Yi s v (some (sh, false, pp)) = (Yi, true) := stp_b fd l48
                rw [es] at c9
                obtain ⟨-, -, O17, -, -⟩ := st (k7.tr k17)
                unfold DX5_workState_257 DX5_workState_258
                rw [succ32, l1']
                refine ⟨(O17.2.1 9 (by decide) (by decide)).2.1, vat O17 (Or.inl rfl), fun M2' e2' => ?_⟩
                exact bey M2' _ (v + 1) ((k7.tr k17).tr (GmF.a ⟨9, by decide, by decide, rfl⟩ e2')) (C17.nx O17 (Or.inl (by decide)) e2') hni (by rw [e2']; exact b17) ⟨Yi, _, c9, Or.inl rfl⟩ (fun f f11 => (aiN e2' (ne (by omega) (by omega) (by decide) (by decide) (by omega))).trans ((g17 f f11).trans (g7 f f11)))
            · -- it ends
              have yend : decide (lvN wv (P 28 (root * 20)).toNatClampNeg = 1) = true := by
                rw [decide_eq_true_eq, eend, ewv]
                exact Classical.byContradiction (fun y => z9 (by rw [if_neg y]))
              have eoc : (if btL r4 v = true then none else ocW τ n0 P pz root (stX Yi s).1 (laV Ψ2.1.length Y4 Z4 v)) = some (sh, true, shM (stB wv (stX Yi s).1 (fun q => (P (n0 + 17) q).toNatClampNeg) (fun q => (P (n0 + 18) q).toNatClampNeg) (fun q => (P (n0 + 19) q).toNatClampNeg)) pz) := by
                rw [if_neg ns, ← ewv]
                unfold ocW
                rw [← esh, yend]
              have c9 := cv _ eoc.symm
              exact f257 (-1) M7 (Yi.1, Yi.2.1, pt2 Yi.2.2 s v sh) k7 C7 hni b7 T7 (Or.inl (by decide)) c9 se g7
          · -- wires stay unknown
            have ys : btL r4 v = true := by
              cases hb4 : btL r4 v with
              | true => rfl
              | false => exact absurd hb4 zs
            have c9 := cv none (by rw [if_pos ys])
            have zz : Yi.2.2 s v = 0 := RnX.zs _ _ _ rni s v (fun _ => Nat.le_refl _)
            have ez : pt2 Yi.2.2 s v 0 = Yi.2.2 := by
              funext p q
              unfold pt2
              by_cases y : p = s ∧ q = v
              · rw [if_pos y, y.1, y.2, zz]
              · rw [if_neg y]
            have c9 : RnX C ask t (s * 2 ^ t + v + 1) (Yi.1, pt2 Yi.2.1 s v (-2), pt2 Yi.2.2 s v 0) false := c9
            rw [ez] at c9
            exact nx M21 (Yi.1, pt2 Yi.2.1 s v (-2), Yi.2.2) (ki.tr (GmF.a ⟨9, by decide, by decide, rfl⟩ e21)) (Ci.nx Oi (Or.inl (by decide)) e21) hni (by rw [e21]; exact hb) c9 (Ti.ld Oi vt e21) se (fun f f11 => (aiN e21 (hO.ne (by omega) (by omega) (by decide) (by decide) (by omega))).trans (gi f f11))
      exact l143 (2 ^ t) 0 M4 Y (by omega) GmF.rf (by rw [← hn]; exact C4) (by omega) b4 (by rw [Nat.add_zero]; exact rn) T4 rfl (fun _ _ => rfl)
    -- the ifs
    have l80 : ∀ d i M3 Y3 Z3, i + d = (ifS σ).length → ArF (fun c => c = ya ∨ c = na) M2 M3 → CtL M3 (n0 + 8) lc rc ya na (n0 + 20) (n0 + 15) ib τ.1.length (ifS σ) Ψ2.1 Y3 Z3 → TdI Ψ2.1.length (tbR R Ψ2) tv (dnR Ψ2 (fun q => ∃ j, j < (inL τ.2.1).length ∧ q = (inL τ.2.1).getD j 0) i) Y3 Z3 → T (h + 5) mdX5_workState 80 [(0, .ref x), (1, .int (Int32.ofNat s)), (2, .ref (n0 + 8)), (3, .int (Int32.ofNat i))] [] M3 Q := by
      intro d
      induction d with
      | zero =>
        intro i M3 Y3 Z3 hi k3 L3 V3
        have ei : i = (ifS σ).length := hi
        obtain ⟨Mo3, O3, -, -, -⟩ := stA k3
        refine VX5_workState_80 (h := h + 4) ?_
        unfold DX5_workState_80
        refine ⟨O3.1.1, n0, O3.1.2.1, Mo3.1.1.1, ?_⟩
        rw [Mo3.2.2.2.2.2.2.2.2.2.2.2.2.1, ← ei]
        exact ⟨fun _ => l131 M3 Y3 Z3 k3 L3 (by rw [← ei]; exact V3), fun z => absurd Int32.le_rfl z⟩
      | succ d ih =>
        intro i M3 Y3 Z3 hi k3 L3 V3
        obtain ⟨Mo3, O3, -, -, -⟩ := stA k3
        have e14 := Mo3.2.2.2.2.2.2.2.2.2.2.2.2.1
        have e10 := Mo3.1.1.2.2.2.2
        refine VX5_workState_80 (h := h + 4) ?_
        unfold DX5_workState_80
        rw [succ32]
        refine ⟨O3.1.1, n0, O3.1.2.1, Mo3.1.1.1, ?_⟩
        rw [e14]
        refine ⟨fun z => absurd ((le32 (by omega) (by omega)).mp z) (by omega), fun _ => ⟨n0, O3.1.2.1, Mo3.1.1.1, fun z5 => ?_, fun z => ⟨n0, O3.1.2.1, Mo3.1.1.1, ?_, L3.1.1.1, ?_⟩⟩⟩
        · rw [e10, add32] at z5
          have := (le32 (a := 5) (by decide) (by omega)).mp z5
          omega
        · rw [e10, add32]; exact vp_of (by omega) (by decide)
        · refine S_tfW (h := h) hW L3 V3.1 (by omega) (fun M5 Y5 Z5 q L5 A5 q1 q2 q3 T5 _ => ⟨rfl, ih (i + 1) M5 Y5 Z5 (by omega) (k3.tr A5) L5 (V3.tl T5 (by rw [tb_r q3 q2]; rfl) (fun l hl => ?_) (fun j hj dj => ?_))⟩)
          · rw [etv]
            have et : tvR (inC R (inL τ.2.1) (stX Y s).1 (stX Y s).2.1 f l) (ifV (inL τ.2.1) l) Ψ2 q = ifV (inL τ.2.1) l i := by rw [tv_r q3 q2, if_neg (by decide), if_neg (by decide), if_pos rfl]
            show _ = tvR (inC R (inL τ.2.1) (stX Y s).1 (stX Y s).2.1 f l) (ifV (inL τ.2.1) l) Ψ2 q
            rw [et, e10, add32, lt32 (show (inL τ.2.1).length + i < 2147483648 by omega)]
            unfold ifV
            exact (la_if ⟨(inL τ.2.1).length, by omega⟩ ⟨i, by omega⟩ ⟨l, hl⟩ (by show (inL τ.2.1).length + i < 5; omega)).symm
          · rcases dj with y | y | y | y | ⟨f', f1, f2⟩
            · exact Or.inl (Or.inl y)
            · exact Or.inl (Or.inr (Or.inl y))
            · exact Or.inl (Or.inr (Or.inr (Or.inl y)))
            · exact Or.inl (Or.inr (Or.inr (Or.inr (Or.inl y))))
            · by_cases w : f' = i
              · rw [w] at f2
                obtain ⟨-, r1, -⟩ := hW.r5 hT hj f2
                obtain ⟨-, r2, -⟩ := hW.r5 hT q1 q3
                have big := hW.2.2.2.2.2.2.2.2.1
                have e := inj32 (a := 2 * j) (b := 2 * q) (by omega) (by omega) (r1.symm.trans r2)
                exact Or.inr (by omega)
              · exact Or.inl (Or.inr (Or.inr (Or.inr (Or.inr ⟨f', by omega, f2⟩))))
    -- the inputs
    have l35 : ∀ d i M3 Y3 Z3, i + d = (inL τ.2.1).length → ArF (fun c => c = ya ∨ c = na) M2 M3 → CtL M3 (n0 + 8) lc rc ya na (n0 + 20) (n0 + 15) ib τ.1.length (ifS σ) Ψ2.1 Y3 Z3 → TdI Ψ2.1.length (tbR R Ψ2) tv (dnR Ψ2 (fun q => ∃ j, j < i ∧ q = (inL τ.2.1).getD j 0) 0) Y3 Z3 → T (h + 5) mdX5_workState 35 [(0, .ref x), (1, .int (Int32.ofNat s)), (2, .ref (n0 + 8)), (3, .int (Int32.ofNat i))] [] M3 Q := by
      intro d
      induction d with
      | zero =>
        intro i M3 Y3 Z3 hi k3 L3 V3
        have ei : i = (inL τ.2.1).length := hi
        obtain ⟨Mo3, O3, -, -, -⟩ := stA k3
        refine VX5_workState_35 (h := h + 4) ?_
        unfold DX5_workState_35 DX5_workState_78
        refine ⟨O3.1.1, n0, O3.1.2.1, Mo3.1.1.1, ?_⟩
        rw [Mo3.1.1.2.2.2.2, ← ei]
        exact ⟨fun _ => l80 (ifS σ).length 0 M3 Y3 Z3 (by omega) k3 L3 (by rw [← ei]; exact V3), fun z => absurd Int32.le_rfl z⟩
      | succ d ih =>
        intro i M3 Y3 Z3 hi k3 L3 V3
        obtain ⟨Mo3, O3, -, -, ⟨-, -, P3, -⟩⟩ := stA k3
        have li : (Int32.ofNat i).toNatClampNeg = i := lt32 (by omega)
        refine VX5_workState_35 (h := h + 4) ?_
        unfold DX5_workState_35 DX5_workState_78
        rw [succ32, li]
        refine ⟨O3.1.1, n0, O3.1.2.1, Mo3.1.1.1, ?_⟩
        rw [Mo3.1.1.2.2.2.2]
        refine ⟨fun z => absurd ((le32 (by omega) (by omega)).mp z) (by omega), fun _ => ⟨fun z5 => ?_, fun z => ⟨n0, O3.1.2.1, Mo3.1.1.1, n0 + 4, Mo3.1.1.2.2.2.1, Mo3.1.2.2.2.1, ?_, ?_, L3.1.1.1, ?_⟩⟩⟩
        · have := (le32 (a := 5) (by decide) (by omega)).mp z5
          omega
        · rw [Mo3.1.2.2.2.2.1]; exact vp_of (by have := Mo3.1.2.2.2.2.2.1; omega) (by decide)
        · exact vp_of (by omega) (by decide)
        · obtain ⟨a1, a2⟩ := inL_at (ro := τ.2.1) (j := i) (by omega)
          have s4' : mAI M3 (n0 + 4) i = Int32.ofNat ((inL τ.2.1).getD i 0) := P3.1 i (by omega)
          rw [s4']
          have s2 : (inL τ.2.1).getD i 0 < τ.1.length := by rw [← hro]; exact a1
          refine S_tiW (h := h + 2) hW h16 L3 V3.1 s2 (fun M5 Y5 Z5 L5 A5 T5 _ => ⟨rfl, ih (i + 1) M5 Y5 Z5 (by omega) (k3.tr A5) L5 (V3.tl T5 (by rw [tb_r (hW.sg s2) (by omega), decide_eq_true ((hR.2.2.2.2 _ s2).mpr a2)]; rfl) (fun l hl => ?_) (fun j hj dj => ?_))⟩)
          · rw [etv]
            have et : tvR (inC R (inL τ.2.1) (stX Y s).1 (stX Y s).2.1 f l) (ifV (inL τ.2.1) l) Ψ2 (2 + (inL τ.2.1).getD i 0) = gvI (Int32.ofNat l &&& (((1 : Int32) <<< (Int32.ofNat (inL τ.2.1).length &&& 31)) - 1)) (inL τ.2.1) ((inL τ.2.1).getD i 0) := by rw [tv_r (hW.sg s2) (by omega), if_pos rfl]; rfl
            show _ = tvR (inC R (inL τ.2.1) (stX Y s).1 (stX Y s).2.1 f l) (ifV (inL τ.2.1) l) Ψ2 (2 + (inL τ.2.1).getD i 0)
            rw [et, gvI_e i4 inL_inj (by omega)]
            exact (la_in ⟨(inL τ.2.1).length, by omega⟩ ⟨i, by omega⟩ ⟨l, hl⟩ (by show i < (inL τ.2.1).length; omega)).symm
          · rcases dj with y | y | y | ⟨q, ⟨j', j1, j2⟩, y⟩ | y
            · exact Or.inl (Or.inl y)
            · exact Or.inl (Or.inr (Or.inl y))
            · exact Or.inl (Or.inr (Or.inr (Or.inl y)))
            · by_cases w : j' = i
              · rw [j2, w] at y
                exact Or.inr (hW.r3 hT hj y).1
              · exact Or.inl (Or.inr (Or.inr (Or.inr (Or.inl ⟨q, ⟨j', by omega, j2⟩, y⟩))))
            · exact Or.inl (Or.inr (Or.inr (Or.inr (Or.inr y))))
    exact l35 (inL τ.2.1).length 0 M2 Y2 Z2 (by omega) ArF.rf L2 (T2.mo (fun j hj dj => dn_mo dj (fun q hq => by obtain ⟨k, k1, -⟩ := hq; exact absurd k1 (Nat.not_lt_zero _)) (Nat.le_refl _)))
  refine KX5_workState (h := h + 4) ?_
  unfold DX5_workState_0
  rw [ls]
  have z5 : mAI M (a 5) s = (stX Y s).1 := y5
  have z6 : mAI M (a 6) s = (stX Y s).2.1 := y6
  refine ⟨ox, n0, e0, on0, n0 + 8, hM.2.2.2.2.1, a 5, (hf 5 (by decide) (by decide)).1, (hf 5 (by decide) (by decide)).2.1, v48 hO (by decide) (by decide), a 6, (hf 6 (by decide) (by decide)).1, (hf 6 (by decide) (by decide)).2.1, v48 hO (by decide) (by decide), fun ns => ?_, fun s0 => ?_⟩
  · rw [z5, z6]
    exact fin false 0 (decide_eq_false (fun y => ns (by rw [y]; rfl))).symm ⟨fun _ => rfl, fun _ => rfl⟩
  · rw [z5, z6]
    exact fin true 1 (decide_eq_true (inj32 (by omega) (by decide) (s0.trans (show (0 : Int32) = Int32.ofNat 0 from rfl)))).symm ⟨fun y => absurd y (by decide), fun y => by cases y⟩
end
