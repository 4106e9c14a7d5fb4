/-! ===== the two readers: the reference's tokens ===== -/
theorem zlbv (x : Nat) : (Int64.ofInt (x : Int)).toBitVec = BitVec.ofNat 64 x := by
  rw [Int64.toBitVec_ofInt]
  exact BitVec.ofInt_natCast _ _
theorem zlval {v : Int64} {n : Nat} (h : v.toBitVec.toNat = n) (hn : n < 9223372036854775808) : v.toInt = (n : Int) := by
  rw [← Int64.toInt_toBitVec, BitVec.toInt_eq_toNat_of_lt (by rw [h]; omega), h]
theorem zlsh5 {v : Nat} (hv : v < 1099511627776) : zlsh (v : Int) 5 = ((v * 32 : Nat) : Int) := by
  refine zlval ?_ (by omega)
  rw [Int64.toBitVec_shiftLeft, zlbv, show ((Int32.ofInt 5).toInt64 &&& 63).toBitVec.smod 64 = BitVec.ofNat 64 5 from by decide, BitVec.shiftLeft_eq', BitVec.toNat_shiftLeft, BitVec.toNat_ofNat, BitVec.toNat_ofNat, Nat.mod_eq_of_lt (show v < 2 ^ 64 by omega), Nat.mod_eq_of_lt (show 5 < 2 ^ 64 by omega), Nat.shiftLeft_eq, Nat.mod_eq_of_lt (show v * 2 ^ 5 < 2 ^ 64 by omega)]
theorem zlv {v x : Nat} (hv : v < 1099511627776) (hx : x < 32) : zlor (zlsh (v : Int) 5) (x : Int) = ((v * 32 + x : Nat) : Int) := by
  rw [zlsh5 hv]
  refine zlval ?_ (by omega)
  rw [Int64.toBitVec_or, zlbv, zlbv, BitVec.toNat_or, BitVec.toNat_ofNat, BitVec.toNat_ofNat, Nat.mod_eq_of_lt (by omega), Nat.mod_eq_of_lt (by omega), Nat.mul_comm v 32]
  exact (Nat.two_pow_add_eq_or_of_lt (i := 5) hx v).symm
/-- letters as a number -/
def eW (F : Nat → Nat) (s m : Nat) : Nat := match m with
  | 0 => 0
  | k + 1 => eW F s k * 32 + (F (s + k) - 96)
def eWl (l : List Nat) : Nat := eW (fun i => l.getD i 0) 0 l.length
theorem eW_lt {F : Nat → Nat} {s : Nat} : ∀ m : Nat, (∀ i, i < m → F (s + i) ≤ 122) → eW F s m < 32 ^ m := by
  intro m
  induction m with
  | zero => intro _; exact Nat.one_pos
  | succ k ih =>
    intro h
    have a := ih (fun i hi => h i (by omega))
    have b := h k (by omega)
    show eW F s k * 32 + (F (s + k) - 96) < 32 ^ k * 32
    omega
theorem eW_inj {F G : Nat → Nat} {s s' : Nat} : ∀ m m' : Nat, (∀ i, i < m → 97 ≤ F (s + i) ∧ F (s + i) ≤ 122) → (∀ i, i < m' → 97 ≤ G (s' + i) ∧ G (s' + i) ≤ 122) → eW F s m = eW G s' m' → m = m' ∧ ∀ i, i < m → F (s + i) = G (s' + i) := by
  intro m
  induction m with
  | zero =>
    intro m' _ hG e
    cases m' with
    | zero => exact ⟨rfl, fun i hi => absurd hi (by omega)⟩
    | succ k' =>
      have b := hG k' (by omega)
      have e : 0 = eW G s' k' * 32 + (G (s' + k') - 96) := e
      omega
  | succ k ih =>
    intro m' hF hG e
    have a := hF k (by omega)
    cases m' with
    | zero =>
      have e : eW F s k * 32 + (F (s + k) - 96) = 0 := e
      omega
    | succ k' =>
      have b := hG k' (by omega)
      have e : eW F s k * 32 + (F (s + k) - 96) = eW G s' k' * 32 + (G (s' + k') - 96) := e
      obtain ⟨e1, e2⟩ := ih k' (fun i hi => hF i (by omega)) (fun i hi => hG i (by omega)) (by omega)
      subst e1
      refine ⟨rfl, fun i hi => ?_⟩
      by_cases c : i = k
      · subst c; omega
      · exact e2 i (by omega)
def bA (B : Nat → Nat) (n p : Nat) : Nat := if p < n then B p else 0
def RBy (I : Nat → Nat → Int) (B : Nat → Nat) : Prop := ∀ i, i < 700 → I 2196 i = (B i : Int) ∧ B i < 256
/-- the reference's token at p -/
def RTk (I J : Nat → Nat → Int) (B : Nat → Nat) (n p : Nat) : Prop := I 1835 21 = n ∧ I 1835 22 = xE B n p ∧ I 1835 23 = xK B n p ∧ I 1835 24 = xS B n p ∧ I 1835 25 = ((xE B n p - xS B n p : Nat) : Int) ∧ I 1835 26 = ((if xK B n p = 2 then xV B n p else 0 : Nat) : Int) ∧ I 1835 27 = bA B n (xS B n p) ∧ J 1835 28 = ((if xK B n p = 1 then eW B (xS B n p) (min 7 (xE B n p - xS B n p)) else 0 : Nat) : Int)
def yF (I J I' J' : Nat → Nat → Int) : Prop := (∀ a, ¬ a = 1835 → I' a = I a) ∧ (∀ k, ¬ k = 19 → ¬ k = 20 → ¬ (22 ≤ k ∧ k ≤ 28) → I' 1835 k = I 1835 k) ∧ ∀ a, ¬ a = 1835 → J' a = J a
theorem yF.rf (I J : Nat → Nat → Int) : yF I J I J := ⟨fun _ _ => rfl, fun _ _ _ _ => rfl, fun _ _ => rfl⟩
theorem yF.tr {I J I1 J1 I2 J2 : Nat → Nat → Int} (h : yF I J I1 J1) (h' : yF I1 J1 I2 J2) : yF I J I2 J2 := ⟨fun a h1 => (h'.1 a h1).trans (h.1 a h1), fun k h1 h2 h3 => (h'.2.1 k h1 h2 h3).trans (h.2.1 k h1 h2 h3), fun a h1 => (h'.2.2 a h1).trans (h.2.2 a h1)⟩
theorem yF.u {I J : Nat → Nat → Int} {k : Nat} {v : Int} (h : k = 19 ∨ k = 20 ∨ (22 ≤ k ∧ k ≤ 28)) : yF I J (z_u I 1835 k v) J := ⟨fun a h1 => zu_ne h1, fun q h1 h2 h3 => zu_nk (by omega), fun _ _ => rfl⟩
theorem yF.j {I J : Nat → Nat → Int} {v : Int} : yF I J I (z_u J 1835 28 v) := ⟨fun _ _ => rfl, fun _ _ _ _ => rfl, fun a h1 => zu_ne h1⟩
theorem RBy.fr {I J I' J' : Nat → Nat → Int} {B : Nat → Nat} (h : RBy I B) (f : yF I J I' J') : RBy I' B := by
  unfold RBy
  rw [f.1 2196 (by decide)]
  exact h
theorem xK1 {B : Nat → Nat} {n p : Nat} (h : xK B n p = 1) : xS B n p < n ∧ xL (B (xS B n p)) = true ∧ xE B n p = xScn xL B (n - xS B n p) (xS B n p) := by
  have hl := xK_lt (by rw [h]; decide : ¬ xK B n p = 0)
  have h2 : xL (B (xS B n p)) = true := by
    unfold xK at h
    rw [if_neg (by omega)] at h
    by_cases c1 : xL (B (xS B n p)) = true
    · exact c1
    · rw [if_neg c1] at h
      split at h
      · omega
      · split at h <;> omega
  exact ⟨hl, h2, by unfold xE; rw [if_neg (by omega), if_pos h2]⟩
theorem xK1_l {B : Nat → Nat} {n p i : Nat} (h : xK B n p = 1) (h1 : xS B n p ≤ i) (h2 : i < xE B n p) : 97 ≤ B i ∧ B i ≤ 122 := by
  rw [(xK1 h).2.2] at h2
  exact xL_iff.1 (xScn_in (f := xL) _ _ i h1 h2)
section
variable {sc : mS} {d : Nat} {t : zT} {I J : Nat → Nat → Int} {Q : zR → zW → Prop} {B : Nat → Nat} {n : Nat}
theorem k191 {x1 : Int} {p : Nat} (e1 : x1 = p) (hB : RBy I B) (hn : n ≤ 700) (h21 : I 1835 21 = n) (hp : p ≤ n) (hq : Q (.inl (some (vi ((bA B n p : Nat) : Int)))) (z_cfg t, I, J)) : Go sc d mt_191 0 [vr 1835, vi x1] [] (z_cfg t, I, J) Q := by
  subst e1
  unfold bA at hq
  refine b191_0 ?_
  rw [h21, Int.toNat_natCast]
  refine ⟨⟨by omega, by omega⟩, ⟨by omega, by omega⟩, fun c => ⟨⟨by omega, by omega⟩, ?_⟩, fun c => ?_⟩
  · rw [if_pos (by omega)] at hq; rw [(hB p (by omega)).1]; exact hq
  · rw [if_neg (by omega)] at hq; exact hq
theorem k192 {x0 : Int} {c : Nat} (e0 : x0 = c) (hc : c < 256) (hq : Q (.inl (some (vi (((xL c).toNat : Nat) : Int)))) (z_cfg t, I, J)) : Go sc d mt_192 0 [vi x0] [] (z_cfg t, I, J) Q := by
  subst e0
  refine b192_0 ⟨⟨by omega, by omega⟩, fun c1 => ?_, fun c1 => ⟨fun c2 => ?_, fun c2 => ?_⟩⟩
  · rw [b_no (fun z => by have := xL_iff.1 z; omega : ¬ xL c = true)] at hq; exact hq
  · rw [b_no (fun z => by have := xL_iff.1 z; omega : ¬ xL c = true)] at hq; exact hq
  · rw [xL_iff.2 (by omega)] at hq; exact hq
theorem k193 {x0 : Int} {c : Nat} (e0 : x0 = c) (hc : c < 256) (hq : Q (.inl (some (vi (((xD c).toNat : Nat) : Int)))) (z_cfg t, I, J)) : Go sc d mt_193 0 [vi x0] [] (z_cfg t, I, J) Q := by
  subst e0
  refine b193_0 ⟨⟨by omega, by omega⟩, fun c1 => ?_, fun c1 => ⟨fun c2 => ?_, fun c2 => ?_⟩⟩
  · rw [b_no (fun z => by have := xD_iff.1 z; omega : ¬ xD c = true)] at hq; exact hq
  · rw [b_no (fun z => by have := xD_iff.1 z; omega : ¬ xD c = true)] at hq; exact hq
  · rw [xD_iff.2 (by omega)] at hq; exact hq
def sp1 (v b : Nat) : Nat := if b = 0 then v else v * 32 + (b - 96)
theorem sp1_lt {v b N : Nat} (hv : v < N) (hN : 1 ≤ N) (hb : b = 0 ∨ (97 ≤ b ∧ b ≤ 122)) : sp1 v b < 32 * N := by unfold sp1; split <;> omega
theorem k196 {ca cb cc cd ce cf : Nat} (ha : 97 ≤ ca ∧ ca ≤ 122) (hb : cb = 0 ∨ (97 ≤ cb ∧ cb ≤ 122)) (hc : cc = 0 ∨ (97 ≤ cc ∧ cc ≤ 122)) (hdd : cd = 0 ∨ (97 ≤ cd ∧ cd ≤ 122)) (he : ce = 0 ∨ (97 ≤ ce ∧ ce ≤ 122)) (hf : cf = 0 ∨ (97 ≤ cf ∧ cf ≤ 122)) (hq : Q (.inl (some (vl ((sp1 (sp1 (sp1 (sp1 (sp1 (ca - 96) cb) cc) cd) ce) cf : Nat) : Int)))) (z_cfg t, I, J)) : Go sc d mt_196 0 [vi (ca : Int), vi (cb : Int), vi (cc : Int), vi (cd : Int), vi (ce : Int), vi (cf : Int), vn, vn] [] (z_cfg t, I, J) Q := by
  have l1 : ca - 96 < 32 := by omega
  have l2 := sp1_lt l1 (by omega) hb
  have l3 := sp1_lt l2 (by omega) hc
  have l4 := sp1_lt l3 (by omega) hdd
  have l5 := sp1_lt l4 (by omega) he
  have y : ∀ v b : Nat, ¬ b = 0 → v < 1099511627776 → (97 ≤ b ∧ b ≤ 122) → zlor (zlsh (v : Int) 5) ((b : Int) - 96) = ((sp1 v b : Nat) : Int) := fun v b h0 hv h => by
    rw [show (b : Int) - 96 = ((b - 96 : Nat) : Int) by omega, zlv hv (by omega)]
    unfold sp1
    rw [if_neg h0]
  have z : ∀ v b : Nat, b = 0 → sp1 v b = v := fun v b h => by unfold sp1; rw [if_pos h]
  have g73 : Go sc d mt_196 73 [vi (ca : Int), vi (cb : Int), vi (cc : Int), vi (cd : Int), vi (ce : Int), vi (cf : Int), vl ((sp1 (sp1 (sp1 (sp1 (ca - 96) cb) cc) cd) ce : Nat) : Int), vn] [] (z_cfg t, I, J) Q := by
    refine b196_73 ⟨⟨by omega, by omega⟩, fun c => ?_, fun c => ⟨⟨by omega, by omega⟩, ?_⟩⟩
    · rw [z _ cf (by omega)] at hq; exact hq
    · rw [y _ cf (by omega) (by omega) (by omega)]; exact hq
  have g55 : Go sc d mt_196 55 [vi (ca : Int), vi (cb : Int), vi (cc : Int), vi (cd : Int), vi (ce : Int), vi (cf : Int), vl ((sp1 (sp1 (sp1 (ca - 96) cb) cc) cd : Nat) : Int), vn] [] (z_cfg t, I, J) Q := by
    refine b196_55 ⟨⟨by omega, by omega⟩, fun c => ?_, fun c => ⟨⟨by omega, by omega⟩, ?_⟩⟩
    · rw [z _ ce (by omega)] at g73; exact g73
    · rw [y _ ce (by omega) (by omega) (by omega)]; exact g73
  have g39 : Go sc d mt_196 39 [vi (ca : Int), vi (cb : Int), vi (cc : Int), vi (cd : Int), vi (ce : Int), vi (cf : Int), vl ((sp1 (sp1 (ca - 96) cb) cc : Nat) : Int), vn] [] (z_cfg t, I, J) Q := by
    refine b196_39 ⟨⟨by omega, by omega⟩, fun c => ?_, fun c => ⟨⟨by omega, by omega⟩, ?_⟩⟩
    · rw [z _ cd (by omega)] at g55; exact g55
    · rw [y _ cd (by omega) (by omega) (by omega)]; exact g55
  have g23 : Go sc d mt_196 23 [vi (ca : Int), vi (cb : Int), vi (cc : Int), vi (cd : Int), vi (ce : Int), vi (cf : Int), vl ((sp1 (ca - 96) cb : Nat) : Int), vn] [] (z_cfg t, I, J) Q := by
    refine b196_23 ⟨⟨by omega, by omega⟩, fun c => ?_, fun c => ⟨⟨by omega, by omega⟩, ?_⟩⟩
    · rw [z _ cc (by omega)] at g39; exact g39
    · rw [y _ cc (by omega) (by omega) (by omega)]; exact g39
  refine b196_0 ⟨⟨by omega, by omega⟩, ⟨by omega, by omega⟩, fun c => ?_, fun c => ⟨⟨by omega, by omega⟩, ?_⟩⟩
  · rw [show (ca : Int) - 96 = ((ca - 96 : Nat) : Int) by omega]
    rw [z _ cb (by omega)] at g23; exact g23
  · rw [show (ca : Int) - 96 = ((ca - 96 : Nat) : Int) by omega, y _ cb (by omega) (by omega) (by omega)]; exact g23
theorem k195 {x0 : Int} {k : Nat} (e0 : x0 = k) (hk : k < 21) (hd : 1 ≤ d) (hq : Q (.inl (some (vl ((eWl (wds k) : Nat) : Int)))) (z_cfg t, I, J)) : Go sc d mt_195 0 [vi x0] [] (z_cfg t, I, J) Q := by
  subst e0
  have h0 : k = 0 → Cl sc d 196 [vi 115, vi 104, vi 111, vi 114, vi 101, vi 115] (z_cfg t, I, J) (z_k sc d mt_195 false 108 [vi (k : Int)] [] Q) := fun e => by
    subst e
    exact c196 hd (fun d' _ => k196 (ca := 115) (cb := 104) (cc := 111) (cd := 114) (ce := 101) (cf := 115) (by decide) (by decide) (by decide) (by decide) (by decide) (by decide) (b195_111 hq))
  have h1 : k = 1 → Cl sc d 196 [vi 116, vi 104, vi 105, vi 110, vi 103, vi 0] (z_cfg t, I, J) (z_k sc d mt_195 false 123 [vi (k : Int)] [] Q) := fun e => by
    subst e
    exact c196 hd (fun d' _ => k196 (ca := 116) (cb := 104) (cc := 105) (cd := 110) (ce := 103) (cf := 0) (by decide) (by decide) (by decide) (by decide) (by decide) (by decide) (b195_126 hq))
  have h2 : k = 2 → Cl sc d 196 [vi 98, vi 111, vi 97, vi 116, vi 0, vi 0] (z_cfg t, I, J) (z_k sc d mt_195 false 137 [vi (k : Int)] [] Q) := fun e => by
    subst e
    exact c196 hd (fun d' _ => k196 (ca := 98) (cb := 111) (cc := 97) (cd := 116) (ce := 0) (cf := 0) (by decide) (by decide) (by decide) (by decide) (by decide) (by decide) (b195_140 hq))
  have h3 : k = 3 → Cl sc d 196 [vi 119, vi 97, vi 116, vi 101, vi 114, vi 0] (z_cfg t, I, J) (z_k sc d mt_195 false 152 [vi (k : Int)] [] Q) := fun e => by
    subst e
    exact c196 hd (fun d' _ => k196 (ca := 119) (cb := 97) (cc := 116) (cd := 101) (ce := 114) (cf := 0) (by decide) (by decide) (by decide) (by decide) (by decide) (by decide) (b195_155 hq))
  have h4 : k = 4 → Cl sc d 196 [vi 119, vi 97, vi 121, vi 0, vi 0, vi 0] (z_cfg t, I, J) (z_k sc d mt_195 false 165 [vi (k : Int)] [] Q) := fun e => by
    subst e
    exact c196 hd (fun d' _ => k196 (ca := 119) (cb := 97) (cc := 121) (cd := 0) (ce := 0) (cf := 0) (by decide) (by decide) (by decide) (by decide) (by decide) (by decide) (b195_168 hq))
  have h5 : k = 5 → Cl sc d 196 [vi 108, vi 97, vi 109, vi 112, vi 0, vi 0] (z_cfg t, I, J) (z_k sc d mt_195 false 179 [vi (k : Int)] [] Q) := fun e => by
    subst e
    exact c196 hd (fun d' _ => k196 (ca := 108) (cb := 97) (cc := 109) (cd := 112) (ce := 0) (cf := 0) (by decide) (by decide) (by decide) (by decide) (by decide) (by decide) (b195_182 hq))
  have h6 : k = 6 → Cl sc d 196 [vi 110, vi 101, vi 118, vi 101, vi 114, vi 0] (z_cfg t, I, J) (z_k sc d mt_195 false 194 [vi (k : Int)] [] Q) := fun e => by
    subst e
    exact c196 hd (fun d' _ => k196 (ca := 110) (cb := 101) (cc := 118) (cd := 101) (ce := 114) (cf := 0) (by decide) (by decide) (by decide) (by decide) (by decide) (by decide) (b195_197 hq))
  have h7 : k = 7 → Cl sc d 196 [vi 119, vi 101, vi 105, vi 103, vi 104, vi 116] (z_cfg t, I, J) (z_k sc d mt_195 false 210 [vi (k : Int)] [] Q) := fun e => by
    subst e
    exact c196 hd (fun d' _ => k196 (ca := 119) (cb := 101) (cc := 105) (cd := 103) (ce := 104) (cf := 116) (by decide) (by decide) (by decide) (by decide) (by decide) (by decide) (b195_213 hq))
  have h8 : k = 8 → Cl sc d 196 [vi 114, vi 111, vi 119, vi 115, vi 0, vi 0] (z_cfg t, I, J) (z_k sc d mt_195 false 224 [vi (k : Int)] [] Q) := fun e => by
    subst e
    exact c196 hd (fun d' _ => k196 (ca := 114) (cb := 111) (cc := 119) (cd := 115) (ce := 0) (cf := 0) (by decide) (by decide) (by decide) (by decide) (by decide) (by decide) (b195_227 hq))
  have h9 : k = 9 → Cl sc d 196 [vi 104, vi 111, vi 108, vi 100, vi 115, vi 0] (z_cfg t, I, J) (z_k sc d mt_195 false 239 [vi (k : Int)] [] Q) := fun e => by
    subst e
    exact c196 hd (fun d' _ => k196 (ca := 104) (cb := 111) (cc := 108) (cd := 100) (ce := 115) (cf := 0) (by decide) (by decide) (by decide) (by decide) (by decide) (by decide) (b195_242 hq))
  have h10 : k = 10 → Cl sc d 196 [vi 108, vi 111, vi 97, vi 100, vi 0, vi 0] (z_cfg t, I, J) (z_k sc d mt_195 false 253 [vi (k : Int)] [] Q) := fun e => by
    subst e
    exact c196 hd (fun d' _ => k196 (ca := 108) (cb := 111) (cc := 97) (cd := 100) (ce := 0) (cf := 0) (by decide) (by decide) (by decide) (by decide) (by decide) (by decide) (b195_256 hq))
  have h11 : k = 11 → Cl sc d 196 [vi 97, vi 116, vi 0, vi 0, vi 0, vi 0] (z_cfg t, I, J) (z_k sc d mt_195 false 265 [vi (k : Int)] [] Q) := fun e => by
    subst e
    exact c196 hd (fun d' _ => k196 (ca := 97) (cb := 116) (cc := 0) (cd := 0) (ce := 0) (cf := 0) (by decide) (by decide) (by decide) (by decide) (by decide) (by decide) (b195_268 hq))
  have h12 : k = 12 → Cl sc d 196 [vi 97, vi 115, vi 104, vi 111, vi 114, vi 101] (z_cfg t, I, J) (z_k sc d mt_195 false 281 [vi (k : Int)] [] Q) := fun e => by
    subst e
    exact c196 hd (fun d' _ => k196 (ca := 97) (cb := 115) (cc := 104) (cd := 111) (ce := 114) (cf := 101) (by decide) (by decide) (by decide) (by decide) (by decide) (by decide) (b195_284 hq))
  have h13 : k = 13 → Cl sc d 196 [vi 97, vi 98, vi 111, vi 97, vi 114, vi 100] (z_cfg t, I, J) (z_k sc d mt_195 false 297 [vi (k : Int)] [] Q) := fun e => by
    subst e
    exact c196 hd (fun d' _ => k196 (ca := 97) (cb := 98) (cc := 111) (cd := 97) (ce := 114) (cf := 100) (by decide) (by decide) (by decide) (by decide) (by decide) (by decide) (b195_300 hq))
  have h14 : k = 14 → Cl sc d 196 [vi 97, vi 110, vi 100, vi 0, vi 0, vi 0] (z_cfg t, I, J) (z_k sc d mt_195 false 310 [vi (k : Int)] [] Q) := fun e => by
    subst e
    exact c196 hd (fun d' _ => k196 (ca := 97) (cb := 110) (cc := 100) (cd := 0) (ce := 0) (cf := 0) (by decide) (by decide) (by decide) (by decide) (by decide) (by decide) (b195_313 hq))
  have h15 : k = 15 → Cl sc d 196 [vi 111, vi 114, vi 0, vi 0, vi 0, vi 0] (z_cfg t, I, J) (z_k sc d mt_195 false 322 [vi (k : Int)] [] Q) := fun e => by
    subst e
    exact c196 hd (fun d' _ => k196 (ca := 111) (cb := 114) (cc := 0) (cd := 0) (ce := 0) (cf := 0) (by decide) (by decide) (by decide) (by decide) (by decide) (by decide) (b195_325 hq))
  have h16 : k = 16 → Cl sc d 196 [vi 110, vi 111, vi 116, vi 0, vi 0, vi 0] (z_cfg t, I, J) (z_k sc d mt_195 false 335 [vi (k : Int)] [] Q) := fun e => by
    subst e
    exact c196 hd (fun d' _ => k196 (ca := 110) (cb := 111) (cc := 116) (cd := 0) (ce := 0) (cf := 0) (by decide) (by decide) (by decide) (by decide) (by decide) (by decide) (b195_338 hq))
  have h17 : k = 17 → Cl sc d 196 [vi 109, vi 97, vi 110, vi 121, vi 0, vi 0] (z_cfg t, I, J) (z_k sc d mt_195 false 349 [vi (k : Int)] [] Q) := fun e => by
    subst e
    exact c196 hd (fun d' _ => k196 (ca := 109) (cb := 97) (cc := 110) (cd := 121) (ce := 0) (cf := 0) (by decide) (by decide) (by decide) (by decide) (by decide) (by decide) (b195_352 hq))
  have h18 : k = 18 → Cl sc d 196 [vi 114, vi 111, vi 119, vi 101, vi 114, vi 115] (z_cfg t, I, J) (z_k sc d mt_195 false 365 [vi (k : Int)] [] Q) := fun e => by
    subst e
    exact c196 hd (fun d' _ => k196 (ca := 114) (cb := 111) (cc := 119) (cd := 101) (ce := 114) (cf := 115) (by decide) (by decide) (by decide) (by decide) (by decide) (by decide) (b195_368 hq))
  have h19 : k = 19 → Cl sc d 196 [vi 98, vi 111, vi 97, vi 116, vi 115, vi 0] (z_cfg t, I, J) (z_k sc d mt_195 false 380 [vi (k : Int)] [] Q) := fun e => by
    subst e
    exact c196 hd (fun d' _ => k196 (ca := 98) (cb := 111) (cc := 97) (cd := 116) (ce := 115) (cf := 0) (by decide) (by decide) (by decide) (by decide) (by decide) (by decide) (b195_383 hq))
  have h20 : k = 20 → Cl sc d 196 [vi 115, vi 104, vi 111, vi 114, vi 101, vi 0] (z_cfg t, I, J) (z_k sc d mt_195 false 395 [vi (k : Int)] [] Q) := fun e => by
    subst e
    exact c196 hd (fun d' _ => k196 (ca := 115) (cb := 104) (cc := 111) (cd := 114) (ce := 101) (cf := 0) (by decide) (by decide) (by decide) (by decide) (by decide) (by decide) (b195_398 hq))
  exact b195_0 ⟨⟨by omega, by omega⟩, ⟨fun c => h0 (by omega), fun c => h1 (by omega), fun c => h2 (by omega), fun c => h3 (by omega), fun c => h4 (by omega), fun c => h5 (by omega), fun c => h6 (by omega), fun c => h7 (by omega), fun c => h8 (by omega), fun c => h9 (by omega), fun c => h10 (by omega), fun c => h11 (by omega), fun c => h12 (by omega), fun c => h13 (by omega), fun c => h14 (by omega), fun c => h15 (by omega), fun c => h16 (by omega), fun c => h17 (by omega), fun c => h18 (by omega), fun c => h19 (by omega), trivial⟩, fun c => h20 (by omega)⟩
end
