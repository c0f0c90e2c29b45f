/-! the tree, as each node's list of children -/
def Lnk (A : Nat → Nat → Int32) (x : Nat) (l : List Nat) : Prop := A 6 x = Int32.ofNat (l.headD 0) ∧ A 7 x = Int32.ofNat (l.getLastD 0) ∧ (∀ i, i + 1 < l.length → A 8 (l.getD i 0) = Int32.ofNat (l.getD (i + 1) 0)) ∧ (∀ c ∈ l, A 9 c = Int32.ofNat x) ∧ (l ≠ [] → A 8 (l.getLastD 0) = 0)
/-- the codes at once of a node without children -/
def leV (k d : Int32) : Int32 := if k = 0 ∨ k = 5 ∨ k = 2 then 1 else if k = 1 then 2 else if k = 3 then (1 : Int32) <<< (d &&& 31) else 0
def aoG (k z : Int32) (l : List Int32) : Int32 := match l with
  | [] => z
  | a :: r => r.foldl (fun had add => aoT k had add False) (aoT k z a True)
def heV (k d : Int32) : Int32 := if k = 1 then (1 : Int32) <<< (d &&& 31) else 0
def heG (z : Int32) (l : List Int32) : Int32 := l.foldl (fun a c => a ||| c) z
/-- the rows of the tree are those of the lists G -/
def TG (Θ : TrT) (G : Nat → List Nat) : Prop := (1 ≤ Θ.1 ∧ Θ.1 ≤ 640) ∧ (∀ x, 1 ≤ x → x < Θ.1 → Lnk Θ.2.2 x (G x) ∧ (G x).Nodup ∧ (∀ c ∈ G x, 1 ≤ c ∧ c < Θ.1) ∧ Θ.2.2 12 x = heG (heV (Θ.2.2 5 x) (Θ.2.2 11 x)) ((G x).map (Θ.2.2 12)) ∧ Θ.2.2 13 x = aoG (Θ.2.2 5 x) (leV (Θ.2.2 5 x) (Θ.2.2 11 x)) ((G x).map (Θ.2.2 13))) ∧ (∀ c, 1 ≤ c → c < Θ.1 → Θ.2.2 9 c = 0 → Θ.2.2 8 c = 0)
/-- what stays of the nodes there were: those of O have got children, those of H a parent -/
def TE (Θ Θ' : TrT) (G G' : Nat → List Nat) (O H : Nat → Prop) : Prop := Θ.1 ≤ Θ'.1 ∧ ∀ x, 1 ≤ x → x < Θ.1 → (Θ'.2.2 5 x = Θ.2.2 5 x ∧ Θ'.2.2 10 x = Θ.2.2 10 x ∧ Θ'.2.2 11 x = Θ.2.2 11 x) ∧ (¬ O x → G' x = G x ∧ Θ'.2.2 12 x = Θ.2.2 12 x ∧ Θ'.2.2 13 x = Θ.2.2 13 x) ∧ (¬ H x → Θ'.2.2 9 x = Θ.2.2 9 x)
section
variable {Θ Θ1 Θ2 : TrT} {G G1 G2 : Nat → List Nat} {O H O1 H1 : Nat → Prop} {x a c : Nat} {k : Int32}
theorem TE.rf : TE Θ Θ G G O H := ⟨Nat.le_refl _, fun _ _ _ => ⟨⟨rfl, rfl, rfl⟩, fun _ => ⟨rfl, rfl, rfl⟩, fun _ => rfl⟩⟩
theorem TE.tr (h : TE Θ Θ1 G G1 O H) (k : TE Θ1 Θ2 G1 G2 O1 H1) (hO : ∀ y, 1 ≤ y → y < Θ.1 → O1 y → O y) (hH : ∀ y, 1 ≤ y → y < Θ.1 → H1 y → H y) : TE Θ Θ2 G G2 O H := by
  refine ⟨Nat.le_trans h.1 k.1, fun y z1 z2 => ?_⟩
  obtain ⟨⟨a1, a2, a3⟩, a4, a5⟩ := h.2 y z1 z2
  obtain ⟨⟨b1, b2, b3⟩, b4, b5⟩ := k.2 y z1 (Nat.lt_of_lt_of_le z2 h.1)
  refine ⟨⟨b1.trans a1, b2.trans a2, b3.trans a3⟩, fun n => ?_, fun n => (b5 (fun z => n (hH y z1 z2 z))).trans (a5 n)⟩
  obtain ⟨c1, c2, c3⟩ := b4 (fun z => n (hO y z1 z2 z))
  obtain ⟨d1, d2, d3⟩ := a4 n
  exact ⟨c1.trans d1, c2.trans d2, c3.trans d3⟩
theorem TE.more (h : TE Θ Θ1 G G1 O H) (hO : ∀ y, 1 ≤ y → y < Θ.1 → O y → O1 y) (hH : ∀ y, 1 ≤ y → y < Θ.1 → H y → H1 y) : TE Θ Θ1 G G1 O1 H1 := ⟨h.1, fun y z1 z2 => ⟨(h.2 y z1 z2).1, fun n => (h.2 y z1 z2).2.1 (fun z => n (hO y z1 z2 z)), fun n => (h.2 y z1 z2).2.2 (fun z => n (hH y z1 z2 z))⟩⟩
theorem nof {p q : Nat} (hp : p < 2000) (hq : q < 2000) (e : Int32.ofNat p = Int32.ofNat q) : p = q := (z32 (by omega) (by omega)).mp e
theorem Lnk.cg {A A' : Nat → Nat → Int32} {l : List Nat} (h : Lnk A x l) (h6 : A' 6 x = A 6 x) (h7 : A' 7 x = A 7 x) (h8 : ∀ c ∈ l, A' 8 c = A 8 c) (h9 : ∀ c ∈ l, A' 9 c = A 9 c) : Lnk A' x l := by
  obtain ⟨a1, a2, a3, a4, a5⟩ := h
  have mem : ∀ i, i < l.length → l.getD i 0 ∈ l := fun i hi => by
    rw [List.getD_eq_getElem?_getD, List.getElem?_eq_getElem hi]
    exact List.getElem_mem hi
  refine ⟨h6.trans a1, h7.trans a2, fun i hi => (h8 _ (mem i (by omega))).trans (a3 i hi), fun c hc => (h9 c hc).trans (a4 c hc), fun hn => ?_⟩
  have : l.getLastD 0 ∈ l := by
    cases l with
    | nil => exact absurd rfl hn
    | cons y r => rw [List.getLastD_cons]; exact List.getLastD_mem_cons
  exact (h8 _ this).trans (a5 hn)
/-- a new node, its own rows as they come: everything at other nodes stays -/
theorem TG.new {Θ' : TrT} (hT : TG Θ G) (hf : Θ.1 < 640) (e1 : Θ'.1 = Θ.1 + 1) (eo : ∀ q y, y ≠ Θ.1 → Θ'.2.2 q y = Θ.2.2 q y) (e6 : Θ'.2.2 6 Θ.1 = 0) (e7 : Θ'.2.2 7 Θ.1 = 0) (e8 : Θ'.2.2 8 Θ.1 = 0) (e12 : Θ'.2.2 12 Θ.1 = heV (Θ'.2.2 5 Θ.1) (Θ'.2.2 11 Θ.1)) (e13 : Θ'.2.2 13 Θ.1 = leV (Θ'.2.2 5 Θ.1) (Θ'.2.2 11 Θ.1)) : TG Θ' (va_up G Θ.1 []) ∧ TE Θ Θ' G (va_up G Θ.1 []) O H := by
  obtain ⟨⟨h1, h2⟩, h3, h4⟩ := hT
  refine ⟨⟨⟨by omega, by omega⟩, fun y z1 z2 => ?_, fun d z1 z2 z3 => ?_⟩, ⟨by omega, fun y z1 z2 => ?_⟩⟩
  · by_cases w : y = Θ.1
    · rw [w, va_up_self]
      refine ⟨⟨e6, e7, fun i hi => absurd hi (Nat.not_lt_zero _), fun d hd => absurd hd List.not_mem_nil, fun n => absurd rfl n⟩, List.nodup_nil, fun d hd => absurd hd List.not_mem_nil, e12, e13⟩
    · rw [va_up_ne _ _ w]
      obtain ⟨a1, a2, a3, a4, a5⟩ := h3 y z1 (by omega)
      have nc : ∀ d ∈ G y, d ≠ Θ.1 := fun d hd z => by have := (a3 d hd).2; omega
      refine ⟨a1.cg (eo _ _ w) (eo _ _ w) (fun d hd => eo _ _ (nc d hd)) (fun d hd => eo _ _ (nc d hd)), a2, fun d hd => ⟨(a3 d hd).1, by have := (a3 d hd).2; omega⟩, ?_, ?_⟩
      · rw [eo 12 y w, eo 5 y w, eo 11 y w, a4, List.map_congr_left (fun d hd => eo 12 d (nc d hd))]
      · rw [eo 13 y w, eo 5 y w, eo 11 y w, a5, List.map_congr_left (fun d hd => eo 13 d (nc d hd))]
  · by_cases w : d = Θ.1
    · rw [w]; exact e8
    · rw [eo _ _ w] at z3 ⊢
      exact h4 d z1 (by omega) z3
  · have w : y ≠ Θ.1 := by omega
    exact ⟨⟨eo _ _ w, eo _ _ w, eo _ _ w⟩, fun _ => ⟨va_up_ne _ _ w, eo _ _ w, eo _ _ w⟩, fun _ => eo _ _ w⟩
end
