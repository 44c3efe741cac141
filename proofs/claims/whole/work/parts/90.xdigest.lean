/-! digest: numbers -/
def hx (h : Int64) (v : Int32) : Int64 := ((31 : Int64) * h) + v.toInt64
def hl (h v : Int64) : Int64 := ((31 : Int64) * h) + v
def bp (j : Nat) : Nat := match j with | 0 => 0 | 1 => 6 | 2 => 13 | _ => 23
def bq (j : Nat) : Nat := match j with | 0 => 3 | 1 => 11 | _ => 23
theorem bp_e (j : Nat) : stPi j = nI (bp j) := match j with | 0 => rfl | 1 => rfl | 2 => rfl | _ + 3 => rfl
theorem bq_e (j : Nat) : stQi j = nI (bq j) := match j with | 0 => rfl | 1 => rfl | _ + 2 => rfl
theorem bp_lt (j : Nat) : bp j < 24 := match j with | 0 => by decide | 1 => by decide | 2 => by decide | _ + 3 => (by decide : 23 < 24)
theorem bq_lt (j : Nat) : bq j < 24 := match j with | 0 => by decide | 1 => by decide | _ + 2 => (by decide : 23 < 24)
def fltA (α : DD) (t : Nat) : Int32 := if t = 0 then flt0 α else flt1 α
def dg1 (α : DD) (β : Mem) (n : Nat) : Int64 := itn (fun k h => hx h (coB α β k)) 17 n
def dg2 (α : DD) (h : Int64) (n : Nat) : Int64 := itn (fun t h => hx h (fltA α t)) h n
def dg3 (α : DD) (h : Int64) (n : Nat) : Int64 := itn (fun b h => hx (hx (hx h (nI (stA α b))) (nI (DB α b 4 0))) (nI (DB α b 4 3))) h n
def dg4i (α : DD) (i : Nat) (h : Int64) (n : Nat) : Int64 := itn (fun k h => hx h (weB α i k)) h n
def dg4 (α : DD) (h : Int64) (n : Nat) : Int64 := itn (fun i h => dg4i α i h 3) h n
def dg5 (α : DD) (h : Int64) (n : Nat) : Int64 := itn (fun c h => hx h (nI (shN α c))) h n
def dgDa (α : DD) (d : Nat) (h : Int64) (n : Nat) : Int64 := itn (fun k h => hx h (nI (daA α d k))) h n
def dgTb (α : DD) (d b : Nat) (h : Int64) (n : Nat) : Int64 := itn (fun k h => hx h (nI (DB α b k d))) h n
def dgAt (α : DD) (d : Nat) (h : Int64) (n : Nat) : Int64 := itn (fun j h => dgTb α d (bp j) h 3) h n
def dgDe (α : DD) (d : Nat) (h : Int64) : Int64 := hx (hx (hx (hx (hx h (beB α d 0)) (beB α d 1)) (drB α d 0)) (drB α d 1)) (waB α d)
def dgD (α : DD) (d : Nat) (h : Int64) : Int64 := dgDe α d (dgAt α d (dgDa α d h 3) 4)
def dg6 (α : DD) (h : Int64) (n : Nat) : Int64 := itn (fun d h => dgD α d h) h n
def dgP (α : DD) (b : Nat) (h : Int64) : Int64 := hl (hl (hx (hx h (stB α b 0)) (stB α b 1)) (chB α 5 b 0)) (chB α 5 b 1)
def dg7 (α : DD) (h : Int64) (n : Nat) : Int64 := itn (fun j h => dgP α (bq j) h) h n
def dg8 (α : DD) (h : Int64) (n : Nat) : Int64 := itn (fun k h => hx h (suB α k)) h n
def dgE (α : DD) (h : Int64) : Int64 := hx (hx (hx (hx (hx (hx (hx (hx (hx (hx (hx (hx h (ruB α 0)) (ruB α 1)) (baB α)) (toB α)) (laB α)) (spB α (-1))) (spB α 0)) (neB α)) (leB α)) (asB α)) (daB α 7 18 0)) (daB α 7 18 1)
def dgZ (α : DD) (h : Int64) : Int64 := dgE α (dg8 α (dg7 α h 3) 3)
def dgY (α : DD) (h : Int64) : Int64 := dgZ α (dg6 α (dg5 α (dg4 α (dg3 α h 24) 24) 10) (nDa α))
def dgT (α : DD) (β : Mem) : Int64 := dgY α (dg2 α (dg1 α β 8) 2)
/-! the class's answers at numbers -/
theorem coS_n {α : DD} {β : Mem} {k : Nat} (hk : k < 9) : coS α β (nI k) = coB α β k := by
  unfold coS
  rw [gd_nI hk (by omega), tn_nI (by omega)]; rfl
theorem hiS_n {α : DD} {b k : Nat} (hb : b < 24) (hk : k < 2) : hiS α (nI b) (nI k) = nI (DB α b 4 (if k = 0 then 0 else 3)) := by
  unfold hiS
  rw [gd_nI hb (by omega), gd_nI hk (by omega), tn_nI (by omega), tn_nI (by omega)]; rfl
theorem weS_n {α : DD} {i k : Nat} (hi : i < 120) (hk : k < 3) : weS α (nI i) (nI k) = weB α i k := by
  unfold weS
  rw [gd_nI hi (by omega), gd_nI hk (by omega), tn_nI (by omega), tn_nI (by omega)]; rfl
theorem shS_n {α : DD} {c : Nat} (hc : c < 10) : shS α (nI c) = nI (shN α c) := by
  unfold shS
  rw [gd_nI hc (by omega), tn_nI (by omega)]; rfl
theorem atS_n {α : DD} {β : Mem} (hO : OkA α β) {b d k : Nat} (hb : b < 24) (hd : d < nDa α) (hk : k < 3) : atS α (nI b) (nI d) (nI k) = nI (DB α b k d) := by
  have := hO.nd
  unfold atS
  rw [gd_nI hb (by omega), gd_nI hd (by omega), gd_nI hk (by omega), tn_nI (by omega), tn_nI (by omega), tn_nI (by omega)]; rfl
theorem beS_n {α : DD} {β : Mem} (hO : OkA α β) {d k : Nat} (hd : d < nDa α) (hk : k < 2) : beS α (nI d) (nI k) = beB α d k := by
  have := hO.nd
  unfold beS
  rw [gd_nI hd (by omega), gd_nI hk (by omega), tn_nI (by omega), tn_nI (by omega)]; rfl
theorem drS_n {α : DD} {β : Mem} (hO : OkA α β) {d k : Nat} (hd : d < nDa α) (hk : k < 2) : drS α (nI d) (nI k) = drB α d k := by
  have := hO.nd
  unfold drS
  rw [gd_nI hd (by omega), gd_nI hk (by omega), tn_nI (by omega), tn_nI (by omega)]; rfl
theorem waS_n {α : DD} {β : Mem} (hO : OkA α β) {d : Nat} (hd : d < nDa α) : waS α (nI d) = waB α d := by
  have := hO.nd
  unfold waS
  rw [gd_nI hd (by omega), tn_nI (by omega)]; rfl
theorem stS_n {α : DD} {b k : Nat} (hb : b < 24) (hk : k < 2) : stS α (nI b) (nI k) = stB α b k := by
  unfold stS
  rw [gd_nI hb (by omega), gd_nI hk (by omega), tn_nI (by omega), tn_nI (by omega)]; rfl
theorem chS_n {α : DD} {c b k : Nat} (hc : c < 17) (hb : b < 24) (hk : k < 2) : chS α (nI c) (nI b) (nI k) = chB α c b k := by
  unfold chS
  rw [gd_nI hc (by omega), gd_nI hb (by omega), gd_nI hk (by omega), tn_nI (by omega), tn_nI (by omega), tn_nI (by omega)]; rfl
theorem suS_n {α : DD} {k : Nat} (hk : k < 3) : suS α (nI k) = suB α k := by
  unfold suS
  rw [gd_nI hk (by omega), tn_nI (by omega)]; rfl
theorem ruS_n {α : DD} {k : Nat} (hk : k < 2) : ruS α (nI k) = ruB α k := by
  unfold ruS
  rw [gd_nI hk (by omega), tn_nI (by omega)]; rfl
theorem daS_n {α : DD} {s : Int32} {n k : Nat} (hn : n < 25) (hk : k < 2) : daS α s (nI n) (nI k) = daB α s n k := by
  unfold daS
  rw [gd_nI hn (by omega), gd_nI hk (by omega), tn_nI (by omega), tn_nI (by omega)]; rfl
theorem spS_1 {α : DD} : spS α (-1) = spB α (-1) := by
  unfold spS
  rw [if_pos (by decide)]
theorem spS_0 {α : DD} : spS α 0 = spB α 0 := by
  unfold spS
  rw [if_pos (by decide)]
section XD
variable {α : DD} {β σ : Mem} {Q : Int32 → Mem → Prop}
theorem XN_count {k : Nat} (hk : k < 9) (hO : OkA α β) (hX : IX σ α β) (hq : ∀ ρ, IX ρ α β → Q (coB α β k) ρ) : wX6_count (nI k) σ Q := X_count hO hX (fun ρ h => by rw [coS_n hk]; exact hq ρ h)
theorem XN_high {b k : Nat} (hb : b < 24) (hk : k < 2) (hO : OkA α β) (hX : IX σ α β) (hq : ∀ ρ, IX ρ α β → Q (nI (DB α b 4 (if k = 0 then 0 else 3))) ρ) : wX6_high (nI b) (nI k) σ Q := X_high hO hX (fun ρ h => by rw [hiS_n hb hk]; exact hq ρ h)
theorem XN_weave {i k : Nat} (hi : i < 120) (hk : k < 3) (hO : OkA α β) (hX : IX σ α β) (hq : ∀ ρ, IX ρ α β → Q (weB α i k) ρ) : wX6_weave (nI i) (nI k) σ Q := X_weave hO hX (fun ρ h => by rw [weS_n hi hk]; exact hq ρ h)
theorem XN_shows {c : Nat} (hc : c < 10) (hO : OkA α β) (hX : IX σ α β) (hq : ∀ ρ, IX ρ α β → Q (nI (shN α c)) ρ) : wX6_shows (nI c) σ Q := X_shows hO hX (fun ρ h => by rw [shS_n hc]; exact hq ρ h)
theorem XN_at {b d k : Nat} (hb : b < 24) (hd : d < nDa α) (hk : k < 3) (hO : OkA α β) (hX : IX σ α β) (hq : ∀ ρ, IX ρ α β → Q (nI (DB α b k d)) ρ) : wX6_at (nI b) (nI d) (nI k) σ Q := X_at hO hX (fun ρ h => by rw [atS_n hO hb hd hk]; exact hq ρ h)
theorem XN_begin {d k : Nat} (hd : d < nDa α) (hk : k < 2) (hO : OkA α β) (hX : IX σ α β) (hq : ∀ ρ, IX ρ α β → Q (beB α d k) ρ) : wX6_begin (nI d) (nI k) σ Q := X_begin hO hX (fun ρ h => by rw [beS_n hO hd hk]; exact hq ρ h)
theorem XN_dress {d k : Nat} (hd : d < nDa α) (hk : k < 2) (hO : OkA α β) (hX : IX σ α β) (hq : ∀ ρ, IX ρ α β → Q (drB α d k) ρ) : wX6_dress (nI d) (nI k) σ Q := X_dress hO hX (fun ρ h => by rw [drS_n hO hd hk]; exact hq ρ h)
theorem XN_ways {d : Nat} (hd : d < nDa α) (hO : OkA α β) (hX : IX σ α β) (hq : ∀ ρ, IX ρ α β → Q (waB α d) ρ) : wX6_ways (nI d) σ Q := X_ways hO hX (fun ρ h => by rw [waS_n hO hd]; exact hq ρ h)
theorem XN_step {b k : Nat} (hb : b < 24) (hk : k < 2) (hO : OkA α β) (hX : IX σ α β) (hq : ∀ ρ, IX ρ α β → Q (stB α b k) ρ) : wX6_step (nI b) (nI k) σ Q := X_step hO hX (fun ρ h => by rw [stS_n hb hk]; exact hq ρ h)
theorem XN_chance {c b k : Nat} {Q : Int64 → Mem → Prop} (hc : c < 17) (hb : b < 24) (hk : k < 2) (hO : OkA α β) (hX : IX σ α β) (hq : ∀ ρ, IX ρ α β → Q (chB α c b k) ρ) : wX6_chance (nI c) (nI b) (nI k) σ Q := X_chance hO hX (fun ρ h => by rw [chS_n hc hb hk]; exact hq ρ h)
theorem XN_sum {k : Nat} (hk : k < 3) (hO : OkA α β) (hX : IX σ α β) (hq : ∀ ρ, IX ρ α β → Q (suB α k) ρ) : wX6_sum (nI k) σ Q := X_sum hO hX (fun ρ h => by rw [suS_n hk]; exact hq ρ h)
theorem XN_run {k : Nat} (hk : k < 2) (hO : OkA α β) (hX : IX σ α β) (hq : ∀ ρ, IX ρ α β → Q (ruB α k) ρ) : wX6_run (nI k) σ Q := X_run hO hX (fun ρ h => by rw [ruS_n hk]; exact hq ρ h)
theorem XN_dances {s : Int32} {n k : Nat} (hn : n < 25) (hk : k < 2) (hO : OkA α β) (hX : IX σ α β) (hq : ∀ ρ, IX ρ α β → Q (daB α s n k) ρ) : wX6_dances s (nI n) (nI k) σ Q := X_dances hO hX (fun ρ h => by rw [daS_n hn hk]; exact hq ρ h)
theorem XN_fault {t : Nat} (ht : t < 2) (hX : IX σ α β) (hq : Q (fltA α t) σ) : wX6_fault (nI t) σ Q := by
  unfold wX6_fault
  refine s_isText ?_
  rw [if_pos (by rw [toI (by omega)]; omega), nI_clamp (by omega)]
  refine ⟨fun z => absurd z one_ne, fun _ => ⟨vp_in_nI (by omega) (by omega), ?_⟩⟩
  have : t = 0 ∨ t = 1 := by omega
  rcases this with rfl | rfl
  · rw [show σ (2 + 2 * 0) 3 = flt0 α from hX.1.1.1.2.2.1]; exact hq
  · rw [show σ (2 + 2 * 1) 3 = flt1 α from hX.1.1.2.2.2.1]; exact hq
theorem XN_steps {b : Nat} (hb : b < 24) (hX : IX σ α β) (hq : Q (nI (stA α b)) σ) : wX6_steps (nI b) σ Q := by
  unfold wX6_steps
  refine s_isBeatX ?_
  rw [if_pos (by rw [toI (by omega)]; omega), nI_clamp (by omega)]
  refine ⟨fun z => absurd z one_ne, fun _ => ⟨vp_in_nI (by omega) (by omega), ?_⟩⟩
  rw [show σ 14 b = nI (iA α 2 b) from hX.1.2.2.1.2.2.2.2 b hb, iA2]
  exact hq
theorem XN_dancer {d k : Nat} (hd : d < nDa α) (hk : k < 3) (hO : OkA α β) (hX : IX σ α β) (hq : Q (nI (daA α d k)) σ) : wX6_dancer (nI d) (nI k) σ Q := by
  have hn := hO.nd
  have q := hX.1.2.2.1.2.2.2.1 d (by rw [iA30]; exact hd)
  rw [iA0, iA1] at q
  have q3 := hX.1.2.2.2.1 d hd
  unfold wX6_dancer
  refine s_isDancerX (n := nDa α) (by omega) (by rw [hX.1.2.2.1.1, iA30]) ?_
  rw [if_pos (by rw [toI (by omega)]; omega), nI_clamp (by omega)]
  refine ⟨fun _ => ⟨fun z => ⟨vp_in_nI (by omega) (by omega), ?_⟩, fun z => ⟨vp_in_nI (by omega) (by omega), ?_⟩, fun z => ⟨vp_in_nI (by omega) (by omega), ?_⟩, fun z => ?_⟩, fun z => absurd z one_ne⟩
  · have : k = 0 := (nI_eq (b := 0) (by omega) (by omega)).mp z
    subst this
    rw [show σ 11 d = nI (plA (α 0) d) from q.1]; exact hq
  · have : k = 1 := (nI_eq (b := 1) (by omega) (by omega)).mp z
    subst this
    rw [show σ 12 d = nI (wyA (α 0) d) from q.2]; exact hq
  · have : k = 2 := (nI_eq (b := 2) (by omega) (by omega)).mp z
    subst this
    rw [q3]; exact hq
  · rw [toI (by omega)] at z
    omega
end XD
section XE
variable {α : DD} {β σ : Mem} {Q : Int64 → Mem → Prop} {h : Int64}
set_option maxHeartbeats 1000000 in
theorem X_dgE (hO : OkA α β) (hX : IX σ α β) (hq : ∀ ρ, IX ρ α β → Q (dgE α h) ρ) : wX6_digest_205 Q h σ := by
  unfold wX6_digest_205
  refine XN_run (k := 0) (by omega) hO hX (fun s1 x1 => fun y hy => ?_)
  subst hy
  refine XN_run (k := 1) (by omega) hO x1 (fun s2 x2 => fun y hy => ?_)
  subst hy
  refine X_bare hO x2 (fun s3 x3 => fun y hy => ?_)
  subst hy
  refine X_top hO x3 (fun s4 x4 => fun y hy => ?_)
  subst hy
  refine X_lacks hO x4 (fun s5 x5 => fun y hy => ?_)
  subst hy
  refine X_spare hO x5 (fun s6 x6 => fun y hy => ?_)
  rw [spS_1] at hy
  subst hy
  refine X_spare hO x6 (fun s7 x7 => fun y hy => ?_)
  rw [spS_0] at hy
  subst hy
  refine X_never hO x7 (fun s8 x8 => fun y hy => ?_)
  subst hy
  refine X_lengths hO x8 (fun s9 x9 _ => fun y hy => ?_)
  subst hy
  refine X_ask hO x9 (fun s10 x10 => fun y hy => ?_)
  subst hy
  refine XN_dances (n := 18) (k := 0) (by omega) (by omega) hO x10 (fun s11 x11 => fun y hy => ?_)
  subst hy
  refine XN_dances (n := 18) (k := 1) (by omega) (by omega) hO x11 (fun s12 x12 => ?_)
  exact hq s12 x12
theorem X_dg8 (hO : OkA α β) (hX : IX σ α β) (hq : ∀ ρ, IX ρ α β → Q (dgE α (dg8 α h 3)) ρ) : ∃ N, wX6_digest_181 Q N h (0 : Int32) σ := by
  have key := up_loop (fun N j => ∀ σ, IX σ α β → wX6_digest_181 Q N (dg8 α h j) (nI j) σ) 3 ?_ ?_ 0 (Nat.zero_le _)
  · obtain ⟨N, hN⟩ := key
    exact ⟨N, hN σ hX⟩
  · intro N ρ r1
    rw [wX6_digest_181, l_lt2 (by omega)]
    exact ⟨fun _ => X_dgE hO r1 hq, fun z => absurd (by omega) z⟩
  · intro N j hj ih ρ r1
    rw [wX6_digest_181, l_lt2 (by omega), i1]
    refine ⟨fun z => absurd z (by omega), fun _ => XN_sum hj hO r1 (fun s1 x1 => fun y hy => ?_)⟩
    subst hy
    exact ih s1 x1
theorem X_dg7 (hO : OkA α β) (hX : IX σ α β) (hq : ∀ ρ, IX ρ α β → Q (dgZ α h) ρ) : wX6_digest_89 Q h σ := by
  unfold wX6_digest_89
  have key := up_loop (fun N j => ∀ σ, IX σ α β → wX6_digest_100 Q N (dg7 α h j) (3 : Int32) (nI j) σ) 3 ?_ ?_ 0 (Nat.zero_le _)
  · obtain ⟨N, hN⟩ := key
    exact ⟨N, hN σ hX⟩
  · intro N ρ r1
    rw [wX6_digest_100, l_ge3 (by omega)]
    exact ⟨fun _ => X_dg8 hO r1 hq, fun z => absurd (Nat.le_refl _) z⟩
  · intro N j hj ih ρ r1
    have hb := bq_lt j
    rw [wX6_digest_100, l_ge3 (by omega), nI_clamp (by omega), bq_e, i1]
    refine ⟨fun z => absurd z (by omega), fun _ => ⟨vp_in_nI (by omega) (by omega), fun b hbq => ?_⟩⟩
    subst hbq
    refine XN_step (k := 0) hb (by omega) hO r1 (fun s1 x1 => fun y hy => ?_)
    subst hy
    refine XN_step (k := 1) hb (by omega) hO x1 (fun s2 x2 => fun y hy => ?_)
    subst hy
    refine XN_chance (c := 5) (k := 0) (by omega) hb (by omega) hO x2 (fun s3 x3 => fun y hy => ?_)
    subst hy
    refine XN_chance (c := 5) (k := 1) (by omega) hb (by omega) hO x3 (fun s4 x4 => fun y hy => ?_)
    subst hy
    exact ih s4 x4
theorem X_dgDe {d : Nat} (hd : d < nDa α) (hO : OkA α β) (hX : IX σ α β) (hq : ∀ ρ, IX ρ α β → Q (dgDe α d h) ρ) : wX6_digestOfDancer_102 Q (nI d) h σ := by
  unfold wX6_digestOfDancer_102
  refine XN_begin (k := 0) hd (by omega) hO hX (fun s1 x1 => fun y hy => ?_)
  subst hy
  refine XN_begin (k := 1) hd (by omega) hO x1 (fun s2 x2 => fun y hy => ?_)
  subst hy
  refine XN_dress (k := 0) hd (by omega) hO x2 (fun s3 x3 => fun y hy => ?_)
  subst hy
  refine XN_dress (k := 1) hd (by omega) hO x3 (fun s4 x4 => fun y hy => ?_)
  subst hy
  refine XN_ways hd hO x4 (fun s5 x5 => ?_)
  exact hq s5 x5
theorem X_dgAt {d : Nat} (hd : d < nDa α) (hO : OkA α β) (hX : IX σ α β) (hq : ∀ ρ, IX ρ α β → Q (dgDe α d (dgAt α d h 4)) ρ) : wX6_digestOfDancer_35 Q (nI d) h σ := by
  unfold wX6_digestOfDancer_35
  have key := up_loop (fun N j => ∀ σ, IX σ α β → wX6_digestOfDancer_48 Q N (nI d) (dgAt α d h j) (4 : Int32) (nI j) σ) 4 ?_ ?_ 0 (Nat.zero_le _)
  · obtain ⟨N, hN⟩ := key
    exact ⟨N, hN σ hX⟩
  · intro N ρ r1
    rw [wX6_digestOfDancer_48, l_ge4 (by omega)]
    exact ⟨fun _ => X_dgDe hd hO r1 hq, fun z => absurd (Nat.le_refl _) z⟩
  · intro N j hj ih ρ r1
    have hb := bp_lt j
    rw [wX6_digestOfDancer_48, l_ge4 (by omega), nI_clamp (by omega), bp_e]
    refine ⟨fun z => absurd z (by omega), fun _ => ⟨vp_in_nI (by omega) (by omega), fun b hbq => ?_⟩⟩
    subst hbq
    have key2 := up_loop (fun N2 k => ∀ σ, IX σ α β → wX6_digestOfDancer_65 (fun x3 x4 x7 x8 ρ => wX6_digestOfDancer_48 Q N x3 x4 x7 x8 ρ) Q N2 (nI d) (dgTb α d (bp j) (dgAt α d h j) k) (4 : Int32) (nI j) (nI (bp j)) (nI k) σ) 3 ?_ ?_ 0 (Nat.zero_le _)
    · obtain ⟨N2, hN2⟩ := key2
      exact ⟨N2, hN2 ρ r1⟩
    · intro N2 ω o1
      rw [wX6_digestOfDancer_65, l_lt2 (by omega), i1]
      exact ⟨fun _ => ih ω o1, fun z => absurd (by omega) z⟩
    · intro N2 k hk ih2 ω o1
      rw [wX6_digestOfDancer_65, l_lt2 (by omega), i1, i1]
      refine ⟨fun z => absurd z (by omega), fun _ => XN_at hb hd hk hO o1 (fun s1 x1 => fun y hy => ?_)⟩
      subst hy
      exact ih2 s1 x1
theorem X_dgD {d : Nat} (hd : d < nDa α) (hO : OkA α β) (hX : IX σ α β) (hq : ∀ ρ, IX ρ α β → Q (dgD α d h) ρ) : wX6_digestOfDancer h (nI d) σ Q := by
  unfold wX6_digestOfDancer
  have key := up_loop (fun N j => ∀ σ, IX σ α β → wX6_digestOfDancer_6 Q N (nI d) (dgDa α d h j) (nI j) σ) 3 ?_ ?_ 0 (Nat.zero_le _)
  · obtain ⟨N, hN⟩ := key
    exact ⟨N, hN σ hX⟩
  · intro N ρ r1
    rw [wX6_digestOfDancer_6, l_lt2 (by omega)]
    exact ⟨fun _ => X_dgAt hd hO r1 hq, fun z => absurd (by omega) z⟩
  · intro N j hj ih ρ r1
    rw [wX6_digestOfDancer_6, l_lt2 (by omega), i1]
    refine ⟨fun z => absurd z (by omega), fun _ => XN_dancer hd hj hO r1 (fun y hy => ?_)⟩
    subst hy
    exact ih ρ r1
theorem X_dg6 (hO : OkA α β) (hX : IX σ α β) (hq : ∀ ρ, IX ρ α β → Q (dgZ α (dg6 α h (nDa α))) ρ) : ∃ N, wX6_digest_65 Q N h (0 : Int32) σ := by
  have hn := hO.nd
  have h4 : ∀ ρ, IX ρ α β → ρ 10 4 = nI (nDa α) := fun ρ r => by rw [r.1.2.2.1.1, iA30]
  have key := up_loop (fun N j => ∀ σ, IX σ α β → wX6_digest_65 Q N (dg6 α h j) (nI j) σ) (nDa α) ?_ ?_ 0 (Nat.zero_le _)
  · obtain ⟨N, hN⟩ := key
    exact ⟨N, hN σ hX⟩
  · intro N ρ r1
    rw [wX6_digest_65, h4 ρ r1, i_le (by omega) (by omega)]
    exact ⟨fun _ => X_dg7 hO r1 hq, fun z => absurd (Nat.le_refl _) z⟩
  · intro N j hj ih ρ r1
    rw [wX6_digest_65, h4 ρ r1, i_le (by omega) (by omega), i1]
    exact ⟨fun z => absurd z (by omega), fun _ => X_dgD hj hO r1 (fun s1 x1 => ih s1 x1)⟩
theorem X_dg5 (hO : OkA α β) (hX : IX σ α β) (hq : ∀ ρ, IX ρ α β → Q (dg5 α h 10) ρ) : ∃ N, wX6_digestOfBeats_112 Q N h (0 : Int32) σ := by
  have key := up_loop (fun N j => ∀ σ, IX σ α β → wX6_digestOfBeats_112 Q N (dg5 α h j) (nI j) σ) 10 ?_ ?_ 0 (Nat.zero_le _)
  · obtain ⟨N, hN⟩ := key
    exact ⟨N, hN σ hX⟩
  · intro N ρ r1
    rw [wX6_digestOfBeats_112, l_ge10 (by omega)]
    exact ⟨fun _ => hq ρ r1, fun z => absurd (Nat.le_refl _) z⟩
  · intro N j hj ih ρ r1
    rw [wX6_digestOfBeats_112, l_ge10 (by omega), i1]
    refine ⟨fun z => absurd z (by omega), fun _ => XN_shows hj hO r1 (fun s1 x1 => fun y hy => ?_)⟩
    subst hy
    exact ih s1 x1
theorem X_dg4 (hO : OkA α β) (hX : IX σ α β) (hq : ∀ ρ, IX ρ α β → Q (dg5 α (dg4 α h 24) 10) ρ) : ∃ N, wX6_digestOfBeats_65 Q N h (0 : Int32) σ := by
  have key := up_loop (fun N j => ∀ σ, IX σ α β → wX6_digestOfBeats_65 Q N (dg4 α h j) (nI j) σ) 24 ?_ ?_ 0 (Nat.zero_le _)
  · obtain ⟨N, hN⟩ := key
    exact ⟨N, hN σ hX⟩
  · intro N ρ r1
    rw [wX6_digestOfBeats_65, l_ge24 (by omega)]
    exact ⟨fun _ => X_dg5 hO r1 hq, fun z => absurd (Nat.le_refl _) z⟩
  · intro N j hj ih ρ r1
    rw [wX6_digestOfBeats_65, l_ge24 (by omega)]
    refine ⟨fun z => absurd z (by omega), fun _ => ?_⟩
    have key2 := up_loop (fun N2 k => ∀ σ, IX σ α β → wX6_digestOfBeats_75 (fun x3 x5 ρ => wX6_digestOfBeats_65 Q N x3 x5 ρ) Q N2 (dg4i α j (dg4 α h j) k) (nI j) (nI k) σ) 3 ?_ ?_ 0 (Nat.zero_le _)
    · obtain ⟨N2, hN2⟩ := key2
      exact ⟨N2, hN2 ρ r1⟩
    · intro N2 ω o1
      rw [wX6_digestOfBeats_75, l_lt2 (by omega), i1]
      exact ⟨fun _ => ih ω o1, fun z => absurd (by omega) z⟩
    · intro N2 k hk ih2 ω o1
      rw [wX6_digestOfBeats_75, l_lt2 (by omega), i1, i1]
      refine ⟨fun z => absurd z (by omega), fun _ => XN_weave (by omega) hk hO o1 (fun s1 x1 => fun y hy => ?_)⟩
      subst hy
      exact ih2 s1 x1
theorem X_dg3 (hO : OkA α β) (hX : IX σ α β) (hq : ∀ ρ, IX ρ α β → Q (dg5 α (dg4 α (dg3 α h 24) 24) 10) ρ) : wX6_digestOfBeats h σ Q := by
  unfold wX6_digestOfBeats
  have key := up_loop (fun N j => ∀ σ, IX σ α β → wX6_digestOfBeats_5 Q N (dg3 α h j) (nI j) σ) 24 ?_ ?_ 0 (Nat.zero_le _)
  · obtain ⟨N, hN⟩ := key
    exact ⟨N, hN σ hX⟩
  · intro N ρ r1
    rw [wX6_digestOfBeats_5, l_ge24 (by omega)]
    exact ⟨fun _ => X_dg4 hO r1 hq, fun z => absurd (Nat.le_refl _) z⟩
  · intro N j hj ih ρ r1
    rw [wX6_digestOfBeats_5, l_ge24 (by omega), i1]
    refine ⟨fun z => absurd z (by omega), fun _ => XN_steps hj r1 (fun y hy => ?_)⟩
    subst hy
    refine XN_high (k := 0) hj (by omega) hO r1 (fun s1 x1 => fun y hy => ?_)
    subst hy
    refine XN_high (k := 1) hj (by omega) hO x1 (fun s2 x2 => fun y hy => ?_)
    subst hy
    exact ih s2 x2
theorem X_dg2 (hO : OkA α β) (hX : IX σ α β) (hq : ∀ ρ, IX ρ α β → Q (dgY α (dg2 α h 2)) ρ) : ∃ N, wX6_digest_33 Q N h (0 : Int32) σ := by
  have key := up_loop (fun N j => ∀ σ, IX σ α β → wX6_digest_33 Q N (dg2 α h j) (nI j) σ) 2 ?_ ?_ 0 (Nat.zero_le _)
  · obtain ⟨N, hN⟩ := key
    exact ⟨N, hN σ hX⟩
  · intro N ρ r1
    rw [wX6_digest_33, l_lt1 (by omega)]
    exact ⟨fun _ => X_dg3 hO r1 (fun s1 x1 => X_dg6 hO x1 hq), fun z => absurd (by omega) z⟩
  · intro N j hj ih ρ r1
    rw [wX6_digest_33, l_lt1 (by omega), i1]
    refine ⟨fun z => absurd z (by omega), fun _ => XN_fault hj r1 (fun y hy => ?_)⟩
    subst hy
    exact ih ρ r1
theorem X_digest (hO : OkA α β) (hX : IX σ α β) (hq : ∀ ρ, IX ρ α β → Q (dgT α β) ρ) : wX6_digest σ Q := by
  unfold wX6_digest
  have key := up_loop (fun N j => ∀ σ, IX σ α β → wX6_digest_6 Q N (dg1 α β j) (nI j) σ) 8 ?_ ?_ 0 (Nat.zero_le _)
  · obtain ⟨N, hN⟩ := key
    exact ⟨N, hN σ hX⟩
  · intro N ρ r1
    rw [wX6_digest_6, l_lt7 (by omega)]
    exact ⟨fun _ => X_dg2 hO r1 hq, fun z => absurd (by omega) z⟩
  · intro N j hj ih ρ r1
    rw [wX6_digest_6, l_lt7 (by omega), i1]
    refine ⟨fun z => absurd z (by omega), fun _ => XN_count (by omega) hO r1 (fun s1 x1 => fun y hy => ?_)⟩
    subst hy
    exact ih s1 x1
end XE
