/-! class and reference, call by call -/
theorem Mok.of {σ σ1 : St} (h : Mok σ) (e17 : σ1 17 = σ 17) (e21 : σ1 21 = σ 21) : Mok σ1 := by
  unfold Mok
  rw [e17, e21]
  exact h
/-- a step: both answer alike, and stand beside each other behind it -/
def Sp (y4 : Nat) (l4 : List AV) (y5 : Nat) (l5 : List AV) (σ : St) (b : Int) : Prop := ∃ (x : Int) (σ1 σ2 : St), Rx y4 0 l4 [] σ = some (some (.inl x), σ1) ∧ Rx y5 0 l5 [] σ1 = some (some (.inl x), σ2) ∧ CM σ2 (b + 1) ∧ σ1 32 = σ 32 ∧ σ2 32 = σ 32
/-- behind a question or a refusal of the class, what the reference finds, and what is beside it -/
theorem CM.afX {σ σ1 : St} {b B : Int} (h : CM σ b) (hB : -6 ≤ B ∧ B ≤ 0) (x : XS (if B = 0 then σ else noX σ B) σ1) : σ1 17 = σ 17 ∧ σ1 21 = σ 21 ∧ σ1 16 = σ 16 ∧ σ1 20 = σ 20 ∧ σ1 19 = σ 19 ∧ σ1 32 = σ 32 ∧ ∀ σ2, MS (if B = 0 then σ1 else noS σ1 B) σ2 → CM σ2 (b + 1) ∧ σ2 32 = σ 32 := by
  by_cases e : B = 0
  · rw [if_pos e] at x
    have t : ∀ s : Nat, 15 < s → σ1 s = σ s := fun s hs => x.tag (Or.inr hs) (by omega)
    refine ⟨t 17 (by decide), t 21 (by decide), t 16 (by decide), t 20 (by decide), t 19 (by decide), t 32 (by decide), fun σ2 m => ?_⟩
    rw [if_pos e] at m
    exact ⟨((h.xs x).ms m).le (by omega), by rw [m.tag (by decide) (by decide) (by decide), t 32 (by decide)]⟩
  · rw [if_neg e] at x
    have t : ∀ s : Nat, 15 < s → σ1 s = σ s := fun s hs => by
      rw [x.tag (Or.inr hs) (by omega)]
      unfold noX
      exact up_t (by omega)
    refine ⟨t 17 (by decide), t 21 (by decide), t 16 (by decide), t 20 (by decide), t 19 (by decide), t 32 (by decide), fun σ2 m => ?_⟩
    rw [if_neg e] at m
    have e21 : (noX σ B) 21 = σ1 21 := by rw [t 21 (by decide)]; unfold noX; exact up_t (by decide)
    have k := XS_keep x (t := 21) (Or.inr (by decide)) (by decide) 0 (-B).toNat (σ1 21 0 (-B).toNat + 1)
    have k2 : XS (noS (noX σ B) B) (noS σ1 B) := by
      unfold noS
      rw [e21]
      exact k
    exact ⟨((h.no hB.1 hB.2).xs k2).ms m, by rw [m.tag (by decide) (by decide) (by decide)]; unfold noS; rw [up_t (by decide), t 32 (by decide)]⟩
theorem Sp.q {y4 y5 : Nat} {l4 l5 : List AV} {σ : St} {b B A : Int} (h : CM σ b) (hb : b ≤ 1000000) (hB : -6 ≤ B ∧ B ≤ 0) (hx : XQ (fun z => Rx y4 0 l4 [] σ = some z) σ B A) (hm : ∀ σ1, Mok σ1 → σ1 17 = σ 17 → σ1 16 = σ 16 → σ1 20 = σ 20 → Q (fun z => Rx y5 0 l5 [] σ1 = some z) σ1 B A) : Sp y4 l4 y5 l5 σ b := by
  obtain ⟨σ1, x, s1⟩ := hx
  obtain ⟨e17, e21, e16, e20, e19, e32, nx⟩ := h.afX hB x
  obtain ⟨σ2, m, s2⟩ := hm σ1 ((h.mok hb).of e17 e21) e17 e16 e20
  obtain ⟨c, d⟩ := nx σ2 m
  exact ⟨_, σ1, σ2, s1, s2, c, e32, d⟩
/-- the reference's change, but for scratch -/
def MW (v : Option AV × St → Prop) (σ : St) (B A : Int) (R' : Rw) : Prop := ∃ σ', MS (if B = 0 then setR σ 0 R' else noS σ B) σ' ∧ v (some (.inl (if B = 0 then A else B)), σ')
theorem Wr.mw {v : Option AV × St → Prop} {σ : St} {B A : Int} {R' : Rw} (h : Wr v σ B A R') : MW v σ B A R' := ⟨_, MS.refl _, h⟩
theorem CM.wr {σ σ1 : St} {b : Int} {R' : Rw} (h : CMr σ b) (w : WS σ σ1) (hK : RK σ1 0 R') (hd : Dk R') (hz : ∀ k : Nat, 58 ≤ k → R' k = 0) : CM (setR σ1 0 R') b := by
  obtain ⟨h3, h4, h5, h6, h7⟩ := h.ws w
  have t : ∀ s : Nat, s ≠ 17 → setR σ1 0 R' s = σ1 s := fun s hs => setR_tag _ _ _ hs
  unfold CM CMr
  rw [setR_at, setR_in σ1 0 R' (r := 2) (by decide), t 0 (by decide), t 3 (by decide), t 4 (by decide), t 5 (by decide), t 6 (by decide), t 16 (by decide), t 19 (by decide), t 20 (by decide), t 21 (by decide)]
  refine ⟨hK.tg fun s a c => by rw [t s (by omega)], hd, fun r k hr hk => ?_, h4, ⟨h5.1, fun z => ⟨(h5.2 z).1.tg fun s a c => by rw [t s (by omega)], (h5.2 z).2⟩⟩, h6, h7⟩
  by_cases z : r = 0
  · rw [z, setR_at]; exact hz k hk
  · rw [setR_in _ _ _ z]; exact h3 r k hr hk
theorem Sp.w {y4 y5 : Nat} {l4 l5 : List AV} {σ : St} {b B A : Int} {R' : Rw} (h : CM σ b) (hb : b ≤ 1000000) (hB : -6 ≤ B ∧ B ≤ 0) (hx : XW (fun z => Rx y4 0 l4 [] σ = some z) σ B A R') (hm : ∀ σ1, Mok σ1 → σ1 17 = σ 17 → σ1 16 = σ 16 → MW (fun z => Rx y5 0 l5 [] σ1 = some z) σ1 B A R') (hR : B = 0 → Dk R' ∧ ∀ k : Nat, 58 ≤ k → R' k = 0) : Sp y4 l4 y5 l5 σ b := by
  obtain ⟨σ1, x, s1⟩ := hx
  by_cases e : B = 0
  · rw [if_pos e] at x
    have t : ∀ s : Nat, 15 < s → σ1 s = σ s := fun s hs => x.1.tag (Or.inr hs)
    obtain ⟨σ2, m, s2⟩ := hm σ1 ((h.mok hb).of (t 17 (by decide)) (t 21 (by decide))) (t 17 (by decide)) (t 16 (by decide))
    rw [if_pos e] at m
    refine ⟨_, σ1, σ2, s1, s2, ((CM.wr h.2.2 x.1.ws x.2 (hR e).1 (hR e).2).ms m).le (by omega), t 32 (by decide), ?_⟩
    rw [m.tag (by decide) (by decide) (by decide), setR_tag _ _ _ (by decide), t 32 (by decide)]
  · rw [if_neg e] at x
    have x2 : XS (if B = 0 then σ else noX σ B) σ1 := by rw [if_neg e, x]; exact XS.refl _
    obtain ⟨e17, e21, e16, e20, e19, e32, nx⟩ := h.afX hB x2
    obtain ⟨σ2, m, s2⟩ := hm σ1 ((h.mok hb).of e17 e21) e17 e16
    rw [if_neg e] at m
    obtain ⟨c, d⟩ := nx σ2 (by rw [if_neg e]; exact m)
    exact ⟨_, σ1, σ2, s1, s2, c, e32, d⟩
theorem CM.z {σ : St} {b : Int} (h : CM σ b) : ∀ k : Nat, 58 ≤ k → σ 17 0 k = 0 := fun k hk => h.2.2.1 0 k (by decide) hk
theorem wby_B (v b : Int) : -6 ≤ wbyF v b ∧ wbyF v b ≤ 0 := by
  have := wby_c v b
  omega
theorem wup_B (R : Rw) (t : Int) : -6 ≤ wupF R t ∧ wupF R t ≤ 0 := by
  have := wup_c R t
  omega
theorem S_at (c : Int) {σ : St} {b : Int} (h : CM σ b) (hb : b ≤ 1000000) : Sp k_X4_at [.inr (.inl (0, 0)), .inl c] k_X5_at [.inr (.inl (16, 0)), .inl c] σ b := by
  have hBd : -6 ≤ atB c ∧ atB c ≤ 0 := by
    unfold atB
    repeat' split
    all_goals omega
  refine Sp.q h hb (hBd) (N_at c σ (σ 17 0) h.1 (h.xok hb)) (fun σ1 m1 e17 e16 e20 => ?_)
  have k := M_at c σ1 m1
  rw [e17] at k
  exact k
theorem S_purpose (p w : Int) {σ : St} {b : Int} (h : CM σ b) (hb : b ≤ 1000000) : Sp k_X4_purpose [.inr (.inl (0, 0)), .inl p, .inl w] k_X5_purpose [.inr (.inl (16, 0)), .inl p, .inl w] σ b := by
  have hBd : -6 ≤ purpB (σ 17 0) p w ∧ purpB (σ 17 0) p w ≤ 0 := by
    unfold purpB
    repeat' split
    all_goals omega
  refine Sp.q h hb (hBd) (N_purpose p w σ (σ 17 0) h.1 h.2.1 (h.xok hb)) (fun σ1 m1 e17 e16 e20 => ?_)
  have k := M_purpose p w σ1 m1
  rw [e17] at k
  exact k
theorem S_thing (t w : Int) {σ : St} {b : Int} (h : CM σ b) (hb : b ≤ 1000000) : Sp k_X4_thing [.inr (.inl (0, 0)), .inl t, .inl w] k_X5_thing [.inr (.inl (16, 0)), .inl t, .inl w] σ b := by
  have hBd : -6 ≤ thinB (σ 17 0) t w ∧ thinB (σ 17 0) t w ≤ 0 := by
    unfold thinB
    repeat' split
    all_goals omega
  refine Sp.q h hb (hBd) (N_thing t w σ (σ 17 0) h.1 (h.xok hb)) (fun σ1 m1 e17 e16 e20 => ?_)
  have k := M_thing t w σ1 m1
  rw [e17] at k
  exact k
theorem S_falls (t : Int) {σ : St} {b : Int} (h : CM σ b) (hb : b ≤ 1000000) : Sp k_X4_falls [.inr (.inl (0, 0)), .inl t] k_X5_falls [.inr (.inl (16, 0)), .inl t] σ b := by
  have hBd : -6 ≤ tB (σ 17 0) t ∧ tB (σ 17 0) t ≤ 0 := by
    unfold tB
    repeat' split
    all_goals omega
  refine Sp.q h hb (hBd) (N_falls t σ (σ 17 0) h.1 h.2.1 (h.xok hb)) (fun σ1 m1 e17 e16 e20 => ?_)
  have k := M_falls t σ1 m1
  rw [e17] at k
  exact k
theorem S_robbed {σ : St} {b : Int} (h : CM σ b) (hb : b ≤ 1000000) : Sp k_X4_robbed [.inr (.inl (0, 0))] k_X5_robbed [.inr (.inl (16, 0)), uns] σ b := by
  refine Sp.q h hb ⟨by decide, by decide⟩ (N_robbed σ (σ 17 0) h.1 h.2.1) (fun σ1 m1 e17 e16 e20 => ?_)
  have k := M_robbed σ1 uns m1
  rw [e17] at k
  exact k
theorem S_upThen (t d : Int) {σ : St} {b : Int} (h : CM σ b) (hb : b ≤ 1000000) : Sp k_X4_upThen [.inr (.inl (0, 0)), .inl t, .inl d, uns] k_X5_upThen [.inr (.inl (16, 0)), .inl t, .inl d, uns] σ b := by
  have hBd : -6 ≤ utB (σ 17 0) t d ∧ utB (σ 17 0) t d ≤ 0 := by
    unfold utB wbyF
    repeat' split
    all_goals omega
  refine Sp.q h hb (hBd) (N_upThen t d σ (σ 17 0) h.1 h.2.1 (h.xok hb) uns) (fun σ1 m1 e17 e16 e20 => ?_)
  have k := M_upThen t d σ1 uns m1
  rw [e17] at k
  exact k
theorem S_allThen (d : Int) {σ : St} {b : Int} (h : CM σ b) (hb : b ≤ 1000000) : Sp k_X4_allThen [.inr (.inl (0, 0)), .inl d, uns] k_X5_allThen [.inr (.inl (16, 0)), .inl d, uns] σ b := by
  refine Sp.q h hb (wby_B _ _) (N_allThen d σ (σ 17 0) h.1 h.2.1 (h.xok hb) uns) (fun σ1 m1 e17 e16 e20 => ?_)
  have k := M_allThen d σ1 uns m1
  rw [e17] at k
  exact k
theorem S_purposeThen (p d w : Int) {σ : St} {b : Int} (h : CM σ b) (hb : b ≤ 1000000) : Sp k_X4_purposeThen [.inr (.inl (0, 0)), .inl p, .inl d, .inl w, uns, uns] k_X5_purposeThen [.inr (.inl (16, 0)), .inl p, .inl d, .inl w, uns] σ b := by
  have hBd : -6 ≤ ptB (σ 17 0) p d w ∧ ptB (σ 17 0) p d w ≤ 0 := by
    unfold ptB wbyF
    repeat' split
    all_goals omega
  refine Sp.q h hb (hBd) (N_purposeThen p d w σ (σ 17 0) h.1 h.2.1 (h.xok hb) uns uns) (fun σ1 m1 e17 e16 e20 => ?_)
  have k := M_purposeThen p d w σ1 uns m1
  rw [e17] at k
  exact k
theorem S_first (w : Int) {σ : St} {b : Int} (h : CM σ b) (hb : b ≤ 1000000) : Sp k_X4_first [.inr (.inl (0, 0)), .inl w, uns] k_X5_first [.inr (.inl (16, 0)), .inl w, uns, uns, uns, uns, uns] σ b := by
  have hBd : -6 ≤ w3B w ∧ w3B w ≤ 0 := by
    unfold w3B
    repeat' split
    all_goals omega
  refine Sp.q h hb (hBd) (N_first w σ (σ 17 0) h.1 h.2.1 (h.xok hb) uns) (fun σ1 m1 e17 e16 e20 => ?_)
  have k := M_first w σ1 uns uns uns uns uns m1
  rw [e17] at k
  exact k
theorem S_pushed (t : Int) {σ : St} {b : Int} (h : CM σ b) (hb : b ≤ 1000000) : Sp k_X4_pushed [.inr (.inl (0, 0)), .inl t, uns] k_X5_pushed [.inr (.inl (16, 0)), .inl t, uns] σ b := by
  refine Sp.q h hb (wup_B _ _) (N_pushed t σ (σ 17 0) h.1 h.2.1 (h.xok hb) uns) (fun σ1 m1 e17 e16 e20 => ?_)
  have k := M_pushed t σ1 uns m1
  rw [e17] at k
  exact k
theorem S_worst (w : Int) {σ : St} {b : Int} (h : CM σ b) (hb : b ≤ 1000000) : Sp k_X4_worst [.inr (.inl (0, 0)), .inl w, uns] k_X5_worst [.inr (.inl (16, 0)), .inl w, uns, uns, uns, uns, uns] σ b := by
  have hBd : -6 ≤ w1B w ∧ w1B w ≤ 0 := by
    unfold w1B
    repeat' split
    all_goals omega
  refine Sp.q h hb (hBd) (N_worst w σ (σ 17 0) h.1 (h.xok hb) uns) (fun σ1 m1 e17 e16 e20 => ?_)
  have k := M_worst w σ1 uns uns uns uns uns m1
  rw [e17] at k
  exact k
theorem S_gap (t : Int) {σ : St} {b : Int} (h : CM σ b) (hb : b ≤ 1000000) : Sp k_X4_gap [.inr (.inl (0, 0)), .inl t, uns] k_X5_gap [.inr (.inl (16, 0)), .inl t, uns, uns, uns, uns, uns] σ b := by
  refine Sp.q h hb (wup_B _ _) (N_gap t σ (σ 17 0) h.1 h.2.1 (h.xok hb) uns) (fun σ1 m1 e17 e16 e20 => ?_)
  have k := M_gap t σ1 uns uns uns uns uns m1
  rw [e17] at k
  exact k
theorem S_longest (w : Int) {σ : St} {b : Int} (h : CM σ b) (hb : b ≤ 1000000) : Sp k_X4_longest [.inr (.inl (0, 0)), .inl w, uns] k_X5_longest [.inr (.inl (16, 0)), .inl w, uns, uns, uns, uns, uns] σ b := by
  have hBd : -6 ≤ w1B w ∧ w1B w ≤ 0 := by
    unfold w1B
    repeat' split
    all_goals omega
  refine Sp.q h hb (hBd) (N_longest w σ (σ 17 0) h.1 (h.xok hb) uns) (fun σ1 m1 e17 e16 e20 => ?_)
  have k := M_longest w σ1 uns uns uns uns uns m1
  rw [e17] at k
  exact k
theorem S_lean (t : Int) {σ : St} {b : Int} (h : CM σ b) (hb : b ≤ 1000000) : Sp k_X4_lean [.inr (.inl (0, 0)), .inl t, uns] k_X5_lean [.inr (.inl (16, 0)), .inl t, uns, uns, uns, uns, uns] σ b := by
  refine Sp.q h hb (wup_B _ _) (N_lean t σ (σ 17 0) h.1 h.2.1 (h.xok hb) uns) (fun σ1 m1 e17 e16 e20 => ?_)
  have k := M_lean t σ1 uns uns uns uns uns m1
  rw [e17] at k
  exact k
theorem S_bestLeans (t s v d w : Int) {σ : St} {b : Int} (h : CM σ b) (hb : b ≤ 1000000) : Sp k_X4_bestLeans [.inr (.inl (0, 0)), .inl t, .inl s, .inl v, .inl d, .inl w, uns, uns] k_X5_bestLeans [.inr (.inl (16, 0)), .inl t, .inl s, .inl v, .inl d, .inl w, uns, uns, uns, uns, uns, uns, uns, uns] σ b := by
  have hBd : -6 ≤ blaB (σ 17 0) t s v d w ∧ blaB (σ 17 0) t s v d w ≤ 0 := by
    unfold blaB wbyF
    repeat' split
    all_goals omega
  refine Sp.q h hb (hBd) (N_bestLeans t s v d w σ (σ 17 0) h.1 h.2.1 (h.xok hb) uns uns) (fun σ1 m1 e17 e16 e20 => ?_)
  have k := M_bestLeans t s v d w σ1 uns uns uns uns uns uns uns uns m1
  rw [e17] at k
  exact k
theorem S_mended (d : Int) {σ : St} {b : Int} (h : CM σ b) (hb : b ≤ 1000000) : Sp k_X4_mended [.inr (.inl (0, 0)), .inl d, uns] k_X5_mended [.inr (.inl (16, 0)), .inl d, uns, uns, uns, uns, uns] σ b := by
  refine Sp.q h hb (wby_B _ _) (N_mended d σ (σ 17 0) h.1 h.2.1 (h.xok hb) uns) (fun σ1 m1 e17 e16 e20 => ?_)
  have k := M_mended d σ1 uns uns uns uns uns m1
  rw [e17] at k
  exact k
theorem S_key (d : Int) {σ : St} {b : Int} (h : CM σ b) (hb : b ≤ 1000000) : Sp k_X4_key [.inr (.inl (0, 0)), .inl d, uns] k_X5_key [.inr (.inl (16, 0)), .inl d, uns, uns, uns, uns, uns] σ b := by
  refine Sp.q h hb (wby_B _ _) (N_key d σ (σ 17 0) h.1 h.2.1 (h.xok hb) uns) (fun σ1 m1 e17 e16 e20 => ?_)
  have k := M_key d σ1 uns uns uns uns uns m1
  rw [e17] at k
  exact k
theorem S_takes (p d : Int) {σ : St} {b : Int} (h : CM σ b) (hb : b ≤ 1000000) : Sp k_X4_takes [.inr (.inl (0, 0)), .inl p, .inl d, uns, uns] k_X5_takes [.inr (.inl (16, 0)), .inl p, .inl d, uns, uns] σ b := by
  have hBd : -6 ≤ takB (σ 17 0) p d ∧ takB (σ 17 0) p d ≤ 0 := by
    unfold takB wbyF
    repeat' split
    all_goals omega
  refine Sp.q h hb (hBd) (N_takes p d σ (σ 17 0) h.1 h.2.1 (h.xok hb) uns uns) (fun σ1 m1 e17 e16 e20 => ?_)
  have k := M_takes p d σ1 uns uns m1
  rw [e17] at k
  exact k
theorem S_balanced (p w : Int) {σ : St} {b : Int} (h : CM σ b) (hb : b ≤ 1000000) : Sp k_X4_balanced [.inr (.inl (0, 0)), .inl p, .inl w, uns] k_X5_balanced [.inr (.inl (16, 0)), .inl p, .inl w, uns, uns, uns] σ b := by
  have hBd : -6 ≤ balB (σ 17 0) p w ∧ balB (σ 17 0) p w ≤ 0 := by
    unfold balB
    repeat' split
    all_goals omega
  refine Sp.q h hb (hBd) (N_balanced p w σ (σ 17 0) h.1 (h.xok hb) uns) (fun σ1 m1 e17 e16 e20 => ?_)
  have k := M_balanced p w σ1 uns uns uns m1
  rw [e17] at k
  exact k
theorem S_thief (d : Int) {σ : St} {b : Int} (h : CM σ b) (hb : b ≤ 1000000) : Sp k_X4_thief [.inr (.inl (0, 0)), .inl d, uns] k_X5_thief [.inr (.inl (16, 0)), .inl d, uns, uns] σ b := by
  refine Sp.q h hb (wby_B _ _) (N_thief d σ (σ 17 0) h.1 h.2.1 (h.xok hb) uns) (fun σ1 m1 e17 e16 e20 => ?_)
  have k := M_thief d σ1 uns uns m1
  rw [e17] at k
  exact k
theorem S_bestPlace (t w : Int) {σ : St} {b : Int} (h : CM σ b) (hb : b ≤ 1000000) : Sp k_X4_bestPlace [.inr (.inl (0, 0)), .inl t, .inl w, uns] k_X5_bestPlace [.inr (.inl (16, 0)), .inl t, .inl w, uns, uns, uns, uns, uns, uns] σ b := by
  have hBd : -6 ≤ bplB (σ 17 0) t w ∧ bplB (σ 17 0) t w ≤ 0 := by
    unfold bplB wupF
    repeat' split
    all_goals omega
  refine Sp.q h hb (hBd) (N_bestPlace t w σ (σ 17 0) h.1 (h.xok hb) uns) (fun σ1 m1 e17 e16 e20 => ?_)
  have k := M_bestPlace t w σ1 uns uns uns uns uns uns m1
  rw [e17] at k
  exact k
theorem S_two (t s d : Int) {σ : St} {b : Int} (h : CM σ b) (hb : b ≤ 1000000) : Sp k_X4_two [.inr (.inl (0, 0)), .inl t, .inl s, .inl d, uns] k_X5_two [.inr (.inl (16, 0)), .inl t, .inl s, .inl d, uns, uns, uns, uns, uns] σ b := by
  have hBd : -6 ≤ twoB (σ 17 0) t s d ∧ twoB (σ 17 0) t s d ≤ 0 := by
    unfold twoB wbyF
    repeat' split
    all_goals omega
  refine Sp.q h hb (hBd) (N_two t s d σ (σ 17 0) h.1 h.2.1 (h.xok hb) uns) (fun σ1 m1 e17 e16 e20 => ?_)
  have k := M_two t s d σ1 uns uns uns uns uns m1
  rw [e17] at k
  exact k
