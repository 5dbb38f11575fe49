/-! signatures; printed by wip/p50/g/gen_all.py -/
def qw_c (ka0 : Nat) (f : qm_M → Option qm_R) : qe_F := fun as m => match as with
  | [.ref a0] => qe_b (Nat.beq a0 ka0) (f m)
  | _ => none
theorem qw_c_ok {kp : pm_K} {md : pm_M} {d k : Nat} {ka0 : Nat} {f : qm_M → Option qm_R} (g : pt_M[k]? = some md) (gl : Nat.ble 1 md.2.2.1 = true) (h : ∀ (m : qm_M), qe_J kp md d (f m) 0 [(0, .ref ka0)] [] m) : ∀ as m x, qw_c ka0 f as m = some x → pm_X kp (d + 1) k as (qm_hp m) x.1 (qm_hp x.2) := by
  intro as m x e
  unfold qw_c at e
  split at e
  · obtain ⟨pa0, ga0⟩ := qe_b_some e
    have pa0 := Nat.eq_of_beq_eq_true pa0
    subst pa0
    exact pm_Xi md _ g (Nat.le_of_ble_eq_true gl) rfl (h _ _ ga0)
  · cases e
def qw_cc (ka0 : Nat) (ka1 : Nat) (f : qm_M → Option qm_R) : qe_F := fun as m => match as with
  | [.ref a0, .ref a1] => qe_b (Nat.beq a0 ka0) (qe_b (Nat.beq a1 ka1) (f m))
  | _ => none
theorem qw_cc_ok {kp : pm_K} {md : pm_M} {d k : Nat} {ka0 : Nat} {ka1 : Nat} {f : qm_M → Option qm_R} (g : pt_M[k]? = some md) (gl : Nat.ble 2 md.2.2.1 = true) (h : ∀ (m : qm_M), qe_J kp md d (f m) 0 [(0, .ref ka0), (1, .ref ka1)] [] m) : ∀ as m x, qw_cc ka0 ka1 f as m = some x → pm_X kp (d + 1) k as (qm_hp m) x.1 (qm_hp x.2) := by
  intro as m x e
  unfold qw_cc at e
  split at e
  · obtain ⟨pa0, ga0⟩ := qe_b_some e
    have pa0 := Nat.eq_of_beq_eq_true pa0
    subst pa0
    obtain ⟨pa1, ga1⟩ := qe_b_some ga0
    have pa1 := Nat.eq_of_beq_eq_true pa1
    subst pa1
    exact pm_Xi md _ g (Nat.le_of_ble_eq_true gl) rfl (h _ _ ga1)
  · cases e
def qw_ccc (ka0 : Nat) (ka1 : Nat) (ka2 : Nat) (f : qm_M → Option qm_R) : qe_F := fun as m => match as with
  | [.ref a0, .ref a1, .ref a2] => qe_b (Nat.beq a0 ka0) (qe_b (Nat.beq a1 ka1) (qe_b (Nat.beq a2 ka2) (f m)))
  | _ => none
theorem qw_ccc_ok {kp : pm_K} {md : pm_M} {d k : Nat} {ka0 : Nat} {ka1 : Nat} {ka2 : Nat} {f : qm_M → Option qm_R} (g : pt_M[k]? = some md) (gl : Nat.ble 3 md.2.2.1 = true) (h : ∀ (m : qm_M), qe_J kp md d (f m) 0 [(0, .ref ka0), (1, .ref ka1), (2, .ref ka2)] [] m) : ∀ as m x, qw_ccc ka0 ka1 ka2 f as m = some x → pm_X kp (d + 1) k as (qm_hp m) x.1 (qm_hp x.2) := by
  intro as m x e
  unfold qw_ccc at e
  split at e
  · obtain ⟨pa0, ga0⟩ := qe_b_some e
    have pa0 := Nat.eq_of_beq_eq_true pa0
    subst pa0
    obtain ⟨pa1, ga1⟩ := qe_b_some ga0
    have pa1 := Nat.eq_of_beq_eq_true pa1
    subst pa1
    obtain ⟨pa2, ga2⟩ := qe_b_some ga1
    have pa2 := Nat.eq_of_beq_eq_true pa2
    subst pa2
    exact pm_Xi md _ g (Nat.le_of_ble_eq_true gl) rfl (h _ _ ga2)
  · cases e
def qw_ccii (ka0 : Nat) (ka1 : Nat) (f : Int32 → Int32 → qm_M → Option qm_R) : qe_F := fun as m => match as with
  | [.ref a0, .ref a1, .int a2, .int a3] => qe_b (Nat.beq a0 ka0) (qe_b (Nat.beq a1 ka1) (f a2 a3 m))
  | _ => none
theorem qw_ccii_ok {kp : pm_K} {md : pm_M} {d k : Nat} {ka0 : Nat} {ka1 : Nat} {f : Int32 → Int32 → qm_M → Option qm_R} (g : pt_M[k]? = some md) (gl : Nat.ble 4 md.2.2.1 = true) (h : ∀ (a2 : Int32) (a3 : Int32) (m : qm_M), qe_J kp md d (f a2 a3 m) 0 [(0, .ref ka0), (1, .ref ka1), (2, .int a2), (3, .int a3)] [] m) : ∀ as m x, qw_ccii ka0 ka1 f as m = some x → pm_X kp (d + 1) k as (qm_hp m) x.1 (qm_hp x.2) := by
  intro as m x e
  unfold qw_ccii at e
  split at e
  · obtain ⟨pa0, ga0⟩ := qe_b_some e
    have pa0 := Nat.eq_of_beq_eq_true pa0
    subst pa0
    obtain ⟨pa1, ga1⟩ := qe_b_some ga0
    have pa1 := Nat.eq_of_beq_eq_true pa1
    subst pa1
    exact pm_Xi md _ g (Nat.le_of_ble_eq_true gl) rfl (h _ _ _ _ ga1)
  · cases e
def qw_ci (ka0 : Nat) (f : Int32 → qm_M → Option qm_R) : qe_F := fun as m => match as with
  | [.ref a0, .int a1] => qe_b (Nat.beq a0 ka0) (f a1 m)
  | _ => none
theorem qw_ci_ok {kp : pm_K} {md : pm_M} {d k : Nat} {ka0 : Nat} {f : Int32 → qm_M → Option qm_R} (g : pt_M[k]? = some md) (gl : Nat.ble 2 md.2.2.1 = true) (h : ∀ (a1 : Int32) (m : qm_M), qe_J kp md d (f a1 m) 0 [(0, .ref ka0), (1, .int a1)] [] m) : ∀ as m x, qw_ci ka0 f as m = some x → pm_X kp (d + 1) k as (qm_hp m) x.1 (qm_hp x.2) := by
  intro as m x e
  unfold qw_ci at e
  split at e
  · obtain ⟨pa0, ga0⟩ := qe_b_some e
    have pa0 := Nat.eq_of_beq_eq_true pa0
    subst pa0
    exact pm_Xi md _ g (Nat.le_of_ble_eq_true gl) rfl (h _ _ _ ga0)
  · cases e
def qw_cii (ka0 : Nat) (f : Int32 → Int32 → qm_M → Option qm_R) : qe_F := fun as m => match as with
  | [.ref a0, .int a1, .int a2] => qe_b (Nat.beq a0 ka0) (f a1 a2 m)
  | _ => none
theorem qw_cii_ok {kp : pm_K} {md : pm_M} {d k : Nat} {ka0 : Nat} {f : Int32 → Int32 → qm_M → Option qm_R} (g : pt_M[k]? = some md) (gl : Nat.ble 3 md.2.2.1 = true) (h : ∀ (a1 : Int32) (a2 : Int32) (m : qm_M), qe_J kp md d (f a1 a2 m) 0 [(0, .ref ka0), (1, .int a1), (2, .int a2)] [] m) : ∀ as m x, qw_cii ka0 f as m = some x → pm_X kp (d + 1) k as (qm_hp m) x.1 (qm_hp x.2) := by
  intro as m x e
  unfold qw_cii at e
  split at e
  · obtain ⟨pa0, ga0⟩ := qe_b_some e
    have pa0 := Nat.eq_of_beq_eq_true pa0
    subst pa0
    exact pm_Xi md _ g (Nat.le_of_ble_eq_true gl) rfl (h _ _ _ _ ga0)
  · cases e
def qw_ciic (ka0 : Nat) (ka3 : Nat) (f : Int32 → Int32 → qm_M → Option qm_R) : qe_F := fun as m => match as with
  | [.ref a0, .int a1, .int a2, .ref a3] => qe_b (Nat.beq a0 ka0) (qe_b (Nat.beq a3 ka3) (f a1 a2 m))
  | _ => none
theorem qw_ciic_ok {kp : pm_K} {md : pm_M} {d k : Nat} {ka0 : Nat} {ka3 : Nat} {f : Int32 → Int32 → qm_M → Option qm_R} (g : pt_M[k]? = some md) (gl : Nat.ble 4 md.2.2.1 = true) (h : ∀ (a1 : Int32) (a2 : Int32) (m : qm_M), qe_J kp md d (f a1 a2 m) 0 [(0, .ref ka0), (1, .int a1), (2, .int a2), (3, .ref ka3)] [] m) : ∀ as m x, qw_ciic ka0 ka3 f as m = some x → pm_X kp (d + 1) k as (qm_hp m) x.1 (qm_hp x.2) := by
  intro as m x e
  unfold qw_ciic at e
  split at e
  · obtain ⟨pa0, ga0⟩ := qe_b_some e
    have pa0 := Nat.eq_of_beq_eq_true pa0
    subst pa0
    obtain ⟨pa3, ga3⟩ := qe_b_some ga0
    have pa3 := Nat.eq_of_beq_eq_true pa3
    subst pa3
    exact pm_Xi md _ g (Nat.le_of_ble_eq_true gl) rfl (h _ _ _ _ ga3)
  · cases e
def qw_ciii (ka0 : Nat) (f : Int32 → Int32 → Int32 → qm_M → Option qm_R) : qe_F := fun as m => match as with
  | [.ref a0, .int a1, .int a2, .int a3] => qe_b (Nat.beq a0 ka0) (f a1 a2 a3 m)
  | _ => none
theorem qw_ciii_ok {kp : pm_K} {md : pm_M} {d k : Nat} {ka0 : Nat} {f : Int32 → Int32 → Int32 → qm_M → Option qm_R} (g : pt_M[k]? = some md) (gl : Nat.ble 4 md.2.2.1 = true) (h : ∀ (a1 : Int32) (a2 : Int32) (a3 : Int32) (m : qm_M), qe_J kp md d (f a1 a2 a3 m) 0 [(0, .ref ka0), (1, .int a1), (2, .int a2), (3, .int a3)] [] m) : ∀ as m x, qw_ciii ka0 f as m = some x → pm_X kp (d + 1) k as (qm_hp m) x.1 (qm_hp x.2) := by
  intro as m x e
  unfold qw_ciii at e
  split at e
  · obtain ⟨pa0, ga0⟩ := qe_b_some e
    have pa0 := Nat.eq_of_beq_eq_true pa0
    subst pa0
    exact pm_Xi md _ g (Nat.le_of_ble_eq_true gl) rfl (h _ _ _ _ _ ga0)
  · cases e
def qw_ciiii (ka0 : Nat) (f : Int32 → Int32 → Int32 → Int32 → qm_M → Option qm_R) : qe_F := fun as m => match as with
  | [.ref a0, .int a1, .int a2, .int a3, .int a4] => qe_b (Nat.beq a0 ka0) (f a1 a2 a3 a4 m)
  | _ => none
theorem qw_ciiii_ok {kp : pm_K} {md : pm_M} {d k : Nat} {ka0 : Nat} {f : Int32 → Int32 → Int32 → Int32 → qm_M → Option qm_R} (g : pt_M[k]? = some md) (gl : Nat.ble 5 md.2.2.1 = true) (h : ∀ (a1 : Int32) (a2 : Int32) (a3 : Int32) (a4 : Int32) (m : qm_M), qe_J kp md d (f a1 a2 a3 a4 m) 0 [(0, .ref ka0), (1, .int a1), (2, .int a2), (3, .int a3), (4, .int a4)] [] m) : ∀ as m x, qw_ciiii ka0 f as m = some x → pm_X kp (d + 1) k as (qm_hp m) x.1 (qm_hp x.2) := by
  intro as m x e
  unfold qw_ciiii at e
  split at e
  · obtain ⟨pa0, ga0⟩ := qe_b_some e
    have pa0 := Nat.eq_of_beq_eq_true pa0
    subst pa0
    exact pm_Xi md _ g (Nat.le_of_ble_eq_true gl) rfl (h _ _ _ _ _ _ ga0)
  · cases e
def qw_ciiiii (ka0 : Nat) (f : Int32 → Int32 → Int32 → Int32 → Int32 → qm_M → Option qm_R) : qe_F := fun as m => match as with
  | [.ref a0, .int a1, .int a2, .int a3, .int a4, .int a5] => qe_b (Nat.beq a0 ka0) (f a1 a2 a3 a4 a5 m)
  | _ => none
theorem qw_ciiiii_ok {kp : pm_K} {md : pm_M} {d k : Nat} {ka0 : Nat} {f : Int32 → Int32 → Int32 → Int32 → Int32 → qm_M → Option qm_R} (g : pt_M[k]? = some md) (gl : Nat.ble 6 md.2.2.1 = true) (h : ∀ (a1 : Int32) (a2 : Int32) (a3 : Int32) (a4 : Int32) (a5 : Int32) (m : qm_M), qe_J kp md d (f a1 a2 a3 a4 a5 m) 0 [(0, .ref ka0), (1, .int a1), (2, .int a2), (3, .int a3), (4, .int a4), (5, .int a5)] [] m) : ∀ as m x, qw_ciiiii ka0 f as m = some x → pm_X kp (d + 1) k as (qm_hp m) x.1 (qm_hp x.2) := by
  intro as m x e
  unfold qw_ciiiii at e
  split at e
  · obtain ⟨pa0, ga0⟩ := qe_b_some e
    have pa0 := Nat.eq_of_beq_eq_true pa0
    subst pa0
    exact pm_Xi md _ g (Nat.le_of_ble_eq_true gl) rfl (h _ _ _ _ _ _ _ ga0)
  · cases e
def qw_cir (ka0 : Nat) (f : Int32 → Nat → qm_M → Option qm_R) : qe_F := fun as m => match as with
  | [.ref a0, .int a1, .ref a2] => qe_b (Nat.beq a0 ka0) (f a1 a2 m)
  | _ => none
theorem qw_cir_ok {kp : pm_K} {md : pm_M} {d k : Nat} {ka0 : Nat} {f : Int32 → Nat → qm_M → Option qm_R} (g : pt_M[k]? = some md) (gl : Nat.ble 3 md.2.2.1 = true) (h : ∀ (a1 : Int32) (a2 : Nat) (m : qm_M), qe_J kp md d (f a1 a2 m) 0 [(0, .ref ka0), (1, .int a1), (2, .ref a2)] [] m) : ∀ as m x, qw_cir ka0 f as m = some x → pm_X kp (d + 1) k as (qm_hp m) x.1 (qm_hp x.2) := by
  intro as m x e
  unfold qw_cir at e
  split at e
  · obtain ⟨pa0, ga0⟩ := qe_b_some e
    have pa0 := Nat.eq_of_beq_eq_true pa0
    subst pa0
    exact pm_Xi md _ g (Nat.le_of_ble_eq_true gl) rfl (h _ _ _ _ ga0)
  · cases e
def qw_cl (ka0 : Nat) (f : Int64 → qm_M → Option qm_R) : qe_F := fun as m => match as with
  | [.ref a0, .long a1] => qe_b (Nat.beq a0 ka0) (f a1 m)
  | _ => none
theorem qw_cl_ok {kp : pm_K} {md : pm_M} {d k : Nat} {ka0 : Nat} {f : Int64 → qm_M → Option qm_R} (g : pt_M[k]? = some md) (gl : Nat.ble 3 md.2.2.1 = true) (h : ∀ (a1 : Int64) (m : qm_M), qe_J kp md d (f a1 m) 0 [(0, .ref ka0), (1, .long a1)] [] m) : ∀ as m x, qw_cl ka0 f as m = some x → pm_X kp (d + 1) k as (qm_hp m) x.1 (qm_hp x.2) := by
  intro as m x e
  unfold qw_cl at e
  split at e
  · obtain ⟨pa0, ga0⟩ := qe_b_some e
    have pa0 := Nat.eq_of_beq_eq_true pa0
    subst pa0
    exact pm_Xi md _ g (Nat.le_of_ble_eq_true gl) rfl (h _ _ _ ga0)
  · cases e
def qw_i (f : Int32 → qm_M → Option qm_R) : qe_F := fun as m => match as with
  | [.int a0] => f a0 m
  | _ => none
theorem qw_i_ok {kp : pm_K} {md : pm_M} {d k : Nat} {f : Int32 → qm_M → Option qm_R} (g : pt_M[k]? = some md) (gl : Nat.ble 1 md.2.2.1 = true) (h : ∀ (a0 : Int32) (m : qm_M), qe_J kp md d (f a0 m) 0 [(0, .int a0)] [] m) : ∀ as m x, qw_i f as m = some x → pm_X kp (d + 1) k as (qm_hp m) x.1 (qm_hp x.2) := by
  intro as m x e
  unfold qw_i at e
  split at e
  · exact pm_Xi md _ g (Nat.le_of_ble_eq_true gl) rfl (h _ _ _ e)
  · cases e
def qw_ii (f : Int32 → Int32 → qm_M → Option qm_R) : qe_F := fun as m => match as with
  | [.int a0, .int a1] => f a0 a1 m
  | _ => none
theorem qw_ii_ok {kp : pm_K} {md : pm_M} {d k : Nat} {f : Int32 → Int32 → qm_M → Option qm_R} (g : pt_M[k]? = some md) (gl : Nat.ble 2 md.2.2.1 = true) (h : ∀ (a0 : Int32) (a1 : Int32) (m : qm_M), qe_J kp md d (f a0 a1 m) 0 [(0, .int a0), (1, .int a1)] [] m) : ∀ as m x, qw_ii f as m = some x → pm_X kp (d + 1) k as (qm_hp m) x.1 (qm_hp x.2) := by
  intro as m x e
  unfold qw_ii at e
  split at e
  · exact pm_Xi md _ g (Nat.le_of_ble_eq_true gl) rfl (h _ _ _ _ e)
  · cases e
def qw_iii (f : Int32 → Int32 → Int32 → qm_M → Option qm_R) : qe_F := fun as m => match as with
  | [.int a0, .int a1, .int a2] => f a0 a1 a2 m
  | _ => none
theorem qw_iii_ok {kp : pm_K} {md : pm_M} {d k : Nat} {f : Int32 → Int32 → Int32 → qm_M → Option qm_R} (g : pt_M[k]? = some md) (gl : Nat.ble 3 md.2.2.1 = true) (h : ∀ (a0 : Int32) (a1 : Int32) (a2 : Int32) (m : qm_M), qe_J kp md d (f a0 a1 a2 m) 0 [(0, .int a0), (1, .int a1), (2, .int a2)] [] m) : ∀ as m x, qw_iii f as m = some x → pm_X kp (d + 1) k as (qm_hp m) x.1 (qm_hp x.2) := by
  intro as m x e
  unfold qw_iii at e
  split at e
  · exact pm_Xi md _ g (Nat.le_of_ble_eq_true gl) rfl (h _ _ _ _ _ e)
  · cases e
def qw_iix (f : Int32 → Int32 → qm_M → Option qm_R) : qe_F := fun as m => match as with
  | [.int a0, .int a1, .retAddr 0] => f a0 a1 m
  | _ => none
theorem qw_iix_ok {kp : pm_K} {md : pm_M} {d k : Nat} {f : Int32 → Int32 → qm_M → Option qm_R} (g : pt_M[k]? = some md) (gl : Nat.ble 3 md.2.2.1 = true) (h : ∀ (a0 : Int32) (a1 : Int32) (m : qm_M), qe_J kp md d (f a0 a1 m) 0 [(0, .int a0), (1, .int a1), (2, .retAddr 0)] [] m) : ∀ as m x, qw_iix f as m = some x → pm_X kp (d + 1) k as (qm_hp m) x.1 (qm_hp x.2) := by
  intro as m x e
  unfold qw_iix at e
  split at e
  · exact pm_Xi md _ g (Nat.le_of_ble_eq_true gl) rfl (h _ _ _ _ e)
  · cases e
def qw_l (f : Int64 → qm_M → Option qm_R) : qe_F := fun as m => match as with
  | [.long a0] => f a0 m
  | _ => none
theorem qw_l_ok {kp : pm_K} {md : pm_M} {d k : Nat} {f : Int64 → qm_M → Option qm_R} (g : pt_M[k]? = some md) (gl : Nat.ble 2 md.2.2.1 = true) (h : ∀ (a0 : Int64) (m : qm_M), qe_J kp md d (f a0 m) 0 [(0, .long a0)] [] m) : ∀ as m x, qw_l f as m = some x → pm_X kp (d + 1) k as (qm_hp m) x.1 (qm_hp x.2) := by
  intro as m x e
  unfold qw_l at e
  split at e
  · exact pm_Xi md _ g (Nat.le_of_ble_eq_true gl) rfl (h _ _ _ e)
  · cases e
def qw_li (f : Int64 → Int32 → qm_M → Option qm_R) : qe_F := fun as m => match as with
  | [.long a0, .int a1] => f a0 a1 m
  | _ => none
theorem qw_li_ok {kp : pm_K} {md : pm_M} {d k : Nat} {f : Int64 → Int32 → qm_M → Option qm_R} (g : pt_M[k]? = some md) (gl : Nat.ble 3 md.2.2.1 = true) (h : ∀ (a0 : Int64) (a1 : Int32) (m : qm_M), qe_J kp md d (f a0 a1 m) 0 [(0, .long a0), (2, .int a1)] [] m) : ∀ as m x, qw_li f as m = some x → pm_X kp (d + 1) k as (qm_hp m) x.1 (qm_hp x.2) := by
  intro as m x e
  unfold qw_li at e
  split at e
  · exact pm_Xi md _ g (Nat.le_of_ble_eq_true gl) rfl (h _ _ _ _ e)
  · cases e
def qw_ll (f : Int64 → Int64 → qm_M → Option qm_R) : qe_F := fun as m => match as with
  | [.long a0, .long a1] => f a0 a1 m
  | _ => none
theorem qw_ll_ok {kp : pm_K} {md : pm_M} {d k : Nat} {f : Int64 → Int64 → qm_M → Option qm_R} (g : pt_M[k]? = some md) (gl : Nat.ble 4 md.2.2.1 = true) (h : ∀ (a0 : Int64) (a1 : Int64) (m : qm_M), qe_J kp md d (f a0 a1 m) 0 [(0, .long a0), (2, .long a1)] [] m) : ∀ as m x, qw_ll f as m = some x → pm_X kp (d + 1) k as (qm_hp m) x.1 (qm_hp x.2) := by
  intro as m x e
  unfold qw_ll at e
  split at e
  · exact pm_Xi md _ g (Nat.le_of_ble_eq_true gl) rfl (h _ _ _ _ e)
  · cases e
def qw_lli (f : Int64 → Int64 → Int32 → qm_M → Option qm_R) : qe_F := fun as m => match as with
  | [.long a0, .long a1, .int a2] => f a0 a1 a2 m
  | _ => none
theorem qw_lli_ok {kp : pm_K} {md : pm_M} {d k : Nat} {f : Int64 → Int64 → Int32 → qm_M → Option qm_R} (g : pt_M[k]? = some md) (gl : Nat.ble 5 md.2.2.1 = true) (h : ∀ (a0 : Int64) (a1 : Int64) (a2 : Int32) (m : qm_M), qe_J kp md d (f a0 a1 a2 m) 0 [(0, .long a0), (2, .long a1), (4, .int a2)] [] m) : ∀ as m x, qw_lli f as m = some x → pm_X kp (d + 1) k as (qm_hp m) x.1 (qm_hp x.2) := by
  intro as m x e
  unfold qw_lli at e
  split at e
  · exact pm_Xi md _ g (Nat.le_of_ble_eq_true gl) rfl (h _ _ _ _ _ e)
  · cases e
def qw_r (f : Nat → qm_M → Option qm_R) : qe_F := fun as m => match as with
  | [.ref a0] => f a0 m
  | _ => none
theorem qw_r_ok {kp : pm_K} {md : pm_M} {d k : Nat} {f : Nat → qm_M → Option qm_R} (g : pt_M[k]? = some md) (gl : Nat.ble 1 md.2.2.1 = true) (h : ∀ (a0 : Nat) (m : qm_M), qe_J kp md d (f a0 m) 0 [(0, .ref a0)] [] m) : ∀ as m x, qw_r f as m = some x → pm_X kp (d + 1) k as (qm_hp m) x.1 (qm_hp x.2) := by
  intro as m x e
  unfold qw_r at e
  split at e
  · exact pm_Xi md _ g (Nat.le_of_ble_eq_true gl) rfl (h _ _ _ e)
  · cases e
def qw_ri (f : Nat → Int32 → qm_M → Option qm_R) : qe_F := fun as m => match as with
  | [.ref a0, .int a1] => f a0 a1 m
  | _ => none
theorem qw_ri_ok {kp : pm_K} {md : pm_M} {d k : Nat} {f : Nat → Int32 → qm_M → Option qm_R} (g : pt_M[k]? = some md) (gl : Nat.ble 2 md.2.2.1 = true) (h : ∀ (a0 : Nat) (a1 : Int32) (m : qm_M), qe_J kp md d (f a0 a1 m) 0 [(0, .ref a0), (1, .int a1)] [] m) : ∀ as m x, qw_ri f as m = some x → pm_X kp (d + 1) k as (qm_hp m) x.1 (qm_hp x.2) := by
  intro as m x e
  unfold qw_ri at e
  split at e
  · exact pm_Xi md _ g (Nat.le_of_ble_eq_true gl) rfl (h _ _ _ _ e)
  · cases e
def qw_rii (f : Nat → Int32 → Int32 → qm_M → Option qm_R) : qe_F := fun as m => match as with
  | [.ref a0, .int a1, .int a2] => f a0 a1 a2 m
  | _ => none
theorem qw_rii_ok {kp : pm_K} {md : pm_M} {d k : Nat} {f : Nat → Int32 → Int32 → qm_M → Option qm_R} (g : pt_M[k]? = some md) (gl : Nat.ble 3 md.2.2.1 = true) (h : ∀ (a0 : Nat) (a1 : Int32) (a2 : Int32) (m : qm_M), qe_J kp md d (f a0 a1 a2 m) 0 [(0, .ref a0), (1, .int a1), (2, .int a2)] [] m) : ∀ as m x, qw_rii f as m = some x → pm_X kp (d + 1) k as (qm_hp m) x.1 (qm_hp x.2) := by
  intro as m x e
  unfold qw_rii at e
  split at e
  · exact pm_Xi md _ g (Nat.le_of_ble_eq_true gl) rfl (h _ _ _ _ _ e)
  · cases e
def qw_rr (f : Nat → Nat → qm_M → Option qm_R) : qe_F := fun as m => match as with
  | [.ref a0, .ref a1] => f a0 a1 m
  | _ => none
theorem qw_rr_ok {kp : pm_K} {md : pm_M} {d k : Nat} {f : Nat → Nat → qm_M → Option qm_R} (g : pt_M[k]? = some md) (gl : Nat.ble 2 md.2.2.1 = true) (h : ∀ (a0 : Nat) (a1 : Nat) (m : qm_M), qe_J kp md d (f a0 a1 m) 0 [(0, .ref a0), (1, .ref a1)] [] m) : ∀ as m x, qw_rr f as m = some x → pm_X kp (d + 1) k as (qm_hp m) x.1 (qm_hp x.2) := by
  intro as m x e
  unfold qw_rr at e
  split at e
  · exact pm_Xi md _ g (Nat.le_of_ble_eq_true gl) rfl (h _ _ _ _ e)
  · cases e
def qp_c_ (ka0 : Nat) (f : qm_M → Option qm_R) : qe_P := fun vs st m => match vs, st with
  | [.ref a0], [] => qe_b (Nat.beq a0 ka0) (f m)
  | _, _ => none
theorem qp_c__ok {kp : pm_K} {md : pm_M} {d pc : Nat} {n0 : Nat} {ka0 : Nat} {f : qm_M → Option qm_R} (h : ∀ (m : qm_M), qe_J kp md d (f m) pc [(n0, .ref ka0)] [] m) : qe_BE kp md d (pc, [n0], qp_c_ ka0 f) := by
  intro vs st m x e
  dsimp only at e ⊢
  unfold qp_c_ at e
  split at e
  · obtain ⟨pa0, ga0⟩ := qe_b_some e
    have pa0 := Nat.eq_of_beq_eq_true pa0
    subst pa0
    exact h _ _ ga0
  · cases e
def qp_c_i (ka0 : Nat) (f : Int32 → qm_M → Option qm_R) : qe_P := fun vs st m => match vs, st with
  | [.ref a0], [.int s0] => qe_b (Nat.beq a0 ka0) (f s0 m)
  | _, _ => none
theorem qp_c_i_ok {kp : pm_K} {md : pm_M} {d pc : Nat} {n0 : Nat} {ka0 : Nat} {f : Int32 → qm_M → Option qm_R} (h : ∀ (s0 : Int32) (m : qm_M), qe_J kp md d (f s0 m) pc [(n0, .ref ka0)] [.int s0] m) : qe_BE kp md d (pc, [n0], qp_c_i ka0 f) := by
  intro vs st m x e
  dsimp only at e ⊢
  unfold qp_c_i at e
  split at e
  · obtain ⟨pa0, ga0⟩ := qe_b_some e
    have pa0 := Nat.eq_of_beq_eq_true pa0
    subst pa0
    exact h _ _ _ ga0
  · cases e
def qp_c_ic (ka0 : Nat) (ks1 : Nat) (f : Int32 → qm_M → Option qm_R) : qe_P := fun vs st m => match vs, st with
  | [.ref a0], [.int s0, .ref s1] => qe_b (Nat.beq a0 ka0) (qe_b (Nat.beq s1 ks1) (f s0 m))
  | _, _ => none
theorem qp_c_ic_ok {kp : pm_K} {md : pm_M} {d pc : Nat} {n0 : Nat} {ka0 : Nat} {ks1 : Nat} {f : Int32 → qm_M → Option qm_R} (h : ∀ (s0 : Int32) (m : qm_M), qe_J kp md d (f s0 m) pc [(n0, .ref ka0)] [.int s0, .ref ks1] m) : qe_BE kp md d (pc, [n0], qp_c_ic ka0 ks1 f) := by
  intro vs st m x e
  dsimp only at e ⊢
  unfold qp_c_ic at e
  split at e
  · obtain ⟨pa0, ga0⟩ := qe_b_some e
    have pa0 := Nat.eq_of_beq_eq_true pa0
    subst pa0
    obtain ⟨ps1, gs1⟩ := qe_b_some ga0
    have ps1 := Nat.eq_of_beq_eq_true ps1
    subst ps1
    exact h _ _ _ gs1
  · cases e
def qp_c_icc (ka0 : Nat) (ks1 : Nat) (ks2 : Nat) (f : Int32 → qm_M → Option qm_R) : qe_P := fun vs st m => match vs, st with
  | [.ref a0], [.int s0, .ref s1, .ref s2] => qe_b (Nat.beq a0 ka0) (qe_b (Nat.beq s1 ks1) (qe_b (Nat.beq s2 ks2) (f s0 m)))
  | _, _ => none
theorem qp_c_icc_ok {kp : pm_K} {md : pm_M} {d pc : Nat} {n0 : Nat} {ka0 : Nat} {ks1 : Nat} {ks2 : Nat} {f : Int32 → qm_M → Option qm_R} (h : ∀ (s0 : Int32) (m : qm_M), qe_J kp md d (f s0 m) pc [(n0, .ref ka0)] [.int s0, .ref ks1, .ref ks2] m) : qe_BE kp md d (pc, [n0], qp_c_icc ka0 ks1 ks2 f) := by
  intro vs st m x e
  dsimp only at e ⊢
  unfold qp_c_icc at e
  split at e
  · obtain ⟨pa0, ga0⟩ := qe_b_some e
    have pa0 := Nat.eq_of_beq_eq_true pa0
    subst pa0
    obtain ⟨ps1, gs1⟩ := qe_b_some ga0
    have ps1 := Nat.eq_of_beq_eq_true ps1
    subst ps1
    obtain ⟨ps2, gs2⟩ := qe_b_some gs1
    have ps2 := Nat.eq_of_beq_eq_true ps2
    subst ps2
    exact h _ _ _ gs2
  · cases e
def qp_cccii_ (ka0 : Nat) (ka1 : Nat) (ka2 : Nat) (f : Int32 → Int32 → qm_M → Option qm_R) : qe_P := fun vs st m => match vs, st with
  | [.ref a0, .ref a1, .ref a2, .int a3, .int a4], [] => qe_b (Nat.beq a0 ka0) (qe_b (Nat.beq a1 ka1) (qe_b (Nat.beq a2 ka2) (f a3 a4 m)))
  | _, _ => none
theorem qp_cccii__ok {kp : pm_K} {md : pm_M} {d pc : Nat} {n0 n1 n2 n3 n4 : Nat} {ka0 : Nat} {ka1 : Nat} {ka2 : Nat} {f : Int32 → Int32 → qm_M → Option qm_R} (h : ∀ (a3 : Int32) (a4 : Int32) (m : qm_M), qe_J kp md d (f a3 a4 m) pc [(n0, .ref ka0), (n1, .ref ka1), (n2, .ref ka2), (n3, .int a3), (n4, .int a4)] [] m) : qe_BE kp md d (pc, [n0, n1, n2, n3, n4], qp_cccii_ ka0 ka1 ka2 f) := by
  intro vs st m x e
  dsimp only at e ⊢
  unfold qp_cccii_ at e
  split at e
  · obtain ⟨pa0, ga0⟩ := qe_b_some e
    have pa0 := Nat.eq_of_beq_eq_true pa0
    subst pa0
    obtain ⟨pa1, ga1⟩ := qe_b_some ga0
    have pa1 := Nat.eq_of_beq_eq_true pa1
    subst pa1
    obtain ⟨pa2, ga2⟩ := qe_b_some ga1
    have pa2 := Nat.eq_of_beq_eq_true pa2
    subst pa2
    exact h _ _ _ _ ga2
  · cases e
def qp_ccciiiii_ (ka0 : Nat) (ka1 : Nat) (ka2 : Nat) (f : Int32 → Int32 → Int32 → Int32 → Int32 → qm_M → Option qm_R) : qe_P := fun vs st m => match vs, st with
  | [.ref a0, .ref a1, .ref a2, .int a3, .int a4, .int a5, .int a6, .int a7], [] => qe_b (Nat.beq a0 ka0) (qe_b (Nat.beq a1 ka1) (qe_b (Nat.beq a2 ka2) (f a3 a4 a5 a6 a7 m)))
  | _, _ => none
theorem qp_ccciiiii__ok {kp : pm_K} {md : pm_M} {d pc : Nat} {n0 n1 n2 n3 n4 n5 n6 n7 : Nat} {ka0 : Nat} {ka1 : Nat} {ka2 : Nat} {f : Int32 → Int32 → Int32 → Int32 → Int32 → qm_M → Option qm_R} (h : ∀ (a3 : Int32) (a4 : Int32) (a5 : Int32) (a6 : Int32) (a7 : Int32) (m : qm_M), qe_J kp md d (f a3 a4 a5 a6 a7 m) pc [(n0, .ref ka0), (n1, .ref ka1), (n2, .ref ka2), (n3, .int a3), (n4, .int a4), (n5, .int a5), (n6, .int a6), (n7, .int a7)] [] m) : qe_BE kp md d (pc, [n0, n1, n2, n3, n4, n5, n6, n7], qp_ccciiiii_ ka0 ka1 ka2 f) := by
  intro vs st m x e
  dsimp only at e ⊢
  unfold qp_ccciiiii_ at e
  split at e
  · obtain ⟨pa0, ga0⟩ := qe_b_some e
    have pa0 := Nat.eq_of_beq_eq_true pa0
    subst pa0
    obtain ⟨pa1, ga1⟩ := qe_b_some ga0
    have pa1 := Nat.eq_of_beq_eq_true pa1
    subst pa1
    obtain ⟨pa2, ga2⟩ := qe_b_some ga1
    have pa2 := Nat.eq_of_beq_eq_true pa2
    subst pa2
    exact h _ _ _ _ _ _ _ ga2
  · cases e
def qp_ccciiiiiiii_ (ka0 : Nat) (ka1 : Nat) (ka2 : Nat) (f : Int32 → Int32 → Int32 → Int32 → Int32 → Int32 → Int32 → Int32 → qm_M → Option qm_R) : qe_P := fun vs st m => match vs, st with
  | [.ref a0, .ref a1, .ref a2, .int a3, .int a4, .int a5, .int a6, .int a7, .int a8, .int a9, .int a10], [] => qe_b (Nat.beq a0 ka0) (qe_b (Nat.beq a1 ka1) (qe_b (Nat.beq a2 ka2) (f a3 a4 a5 a6 a7 a8 a9 a10 m)))
  | _, _ => none
theorem qp_ccciiiiiiii__ok {kp : pm_K} {md : pm_M} {d pc : Nat} {n0 n1 n2 n3 n4 n5 n6 n7 n8 n9 n10 : Nat} {ka0 : Nat} {ka1 : Nat} {ka2 : Nat} {f : Int32 → Int32 → Int32 → Int32 → Int32 → Int32 → Int32 → Int32 → qm_M → Option qm_R} (h : ∀ (a3 : Int32) (a4 : Int32) (a5 : Int32) (a6 : Int32) (a7 : Int32) (a8 : Int32) (a9 : Int32) (a10 : Int32) (m : qm_M), qe_J kp md d (f a3 a4 a5 a6 a7 a8 a9 a10 m) pc [(n0, .ref ka0), (n1, .ref ka1), (n2, .ref ka2), (n3, .int a3), (n4, .int a4), (n5, .int a5), (n6, .int a6), (n7, .int a7), (n8, .int a8), (n9, .int a9), (n10, .int a10)] [] m) : qe_BE kp md d (pc, [n0, n1, n2, n3, n4, n5, n6, n7, n8, n9, n10], qp_ccciiiiiiii_ ka0 ka1 ka2 f) := by
  intro vs st m x e
  dsimp only at e ⊢
  unfold qp_ccciiiiiiii_ at e
  split at e
  · obtain ⟨pa0, ga0⟩ := qe_b_some e
    have pa0 := Nat.eq_of_beq_eq_true pa0
    subst pa0
    obtain ⟨pa1, ga1⟩ := qe_b_some ga0
    have pa1 := Nat.eq_of_beq_eq_true pa1
    subst pa1
    obtain ⟨pa2, ga2⟩ := qe_b_some ga1
    have pa2 := Nat.eq_of_beq_eq_true pa2
    subst pa2
    exact h _ _ _ _ _ _ _ _ _ _ ga2
  · cases e
def qp_ccciiiiiiiii_ (ka0 : Nat) (ka1 : Nat) (ka2 : Nat) (f : Int32 → Int32 → Int32 → Int32 → Int32 → Int32 → Int32 → Int32 → Int32 → qm_M → Option qm_R) : qe_P := fun vs st m => match vs, st with
  | [.ref a0, .ref a1, .ref a2, .int a3, .int a4, .int a5, .int a6, .int a7, .int a8, .int a9, .int a10, .int a11], [] => qe_b (Nat.beq a0 ka0) (qe_b (Nat.beq a1 ka1) (qe_b (Nat.beq a2 ka2) (f a3 a4 a5 a6 a7 a8 a9 a10 a11 m)))
  | _, _ => none
theorem qp_ccciiiiiiiii__ok {kp : pm_K} {md : pm_M} {d pc : Nat} {n0 n1 n2 n3 n4 n5 n6 n7 n8 n9 n10 n11 : Nat} {ka0 : Nat} {ka1 : Nat} {ka2 : Nat} {f : Int32 → Int32 → Int32 → Int32 → Int32 → Int32 → Int32 → Int32 → Int32 → qm_M → Option qm_R} (h : ∀ (a3 : Int32) (a4 : Int32) (a5 : Int32) (a6 : Int32) (a7 : Int32) (a8 : Int32) (a9 : Int32) (a10 : Int32) (a11 : Int32) (m : qm_M), qe_J kp md d (f a3 a4 a5 a6 a7 a8 a9 a10 a11 m) pc [(n0, .ref ka0), (n1, .ref ka1), (n2, .ref ka2), (n3, .int a3), (n4, .int a4), (n5, .int a5), (n6, .int a6), (n7, .int a7), (n8, .int a8), (n9, .int a9), (n10, .int a10), (n11, .int a11)] [] m) : qe_BE kp md d (pc, [n0, n1, n2, n3, n4, n5, n6, n7, n8, n9, n10, n11], qp_ccciiiiiiiii_ ka0 ka1 ka2 f) := by
  intro vs st m x e
  dsimp only at e ⊢
  unfold qp_ccciiiiiiiii_ at e
  split at e
  · obtain ⟨pa0, ga0⟩ := qe_b_some e
    have pa0 := Nat.eq_of_beq_eq_true pa0
    subst pa0
    obtain ⟨pa1, ga1⟩ := qe_b_some ga0
    have pa1 := Nat.eq_of_beq_eq_true pa1
    subst pa1
    obtain ⟨pa2, ga2⟩ := qe_b_some ga1
    have pa2 := Nat.eq_of_beq_eq_true pa2
    subst pa2
    exact h _ _ _ _ _ _ _ _ _ _ _ ga2
  · cases e
def qp_ccciiiiiiiiii_ (ka0 : Nat) (ka1 : Nat) (ka2 : Nat) (f : Int32 → Int32 → Int32 → Int32 → Int32 → Int32 → Int32 → Int32 → Int32 → Int32 → qm_M → Option qm_R) : qe_P := fun vs st m => match vs, st with
  | [.ref a0, .ref a1, .ref a2, .int a3, .int a4, .int a5, .int a6, .int a7, .int a8, .int a9, .int a10, .int a11, .int a12], [] => qe_b (Nat.beq a0 ka0) (qe_b (Nat.beq a1 ka1) (qe_b (Nat.beq a2 ka2) (f a3 a4 a5 a6 a7 a8 a9 a10 a11 a12 m)))
  | _, _ => none
theorem qp_ccciiiiiiiiii__ok {kp : pm_K} {md : pm_M} {d pc : Nat} {n0 n1 n2 n3 n4 n5 n6 n7 n8 n9 n10 n11 n12 : Nat} {ka0 : Nat} {ka1 : Nat} {ka2 : Nat} {f : Int32 → Int32 → Int32 → Int32 → Int32 → Int32 → Int32 → Int32 → Int32 → Int32 → qm_M → Option qm_R} (h : ∀ (a3 : Int32) (a4 : Int32) (a5 : Int32) (a6 : Int32) (a7 : Int32) (a8 : Int32) (a9 : Int32) (a10 : Int32) (a11 : Int32) (a12 : Int32) (m : qm_M), qe_J kp md d (f a3 a4 a5 a6 a7 a8 a9 a10 a11 a12 m) pc [(n0, .ref ka0), (n1, .ref ka1), (n2, .ref ka2), (n3, .int a3), (n4, .int a4), (n5, .int a5), (n6, .int a6), (n7, .int a7), (n8, .int a8), (n9, .int a9), (n10, .int a10), (n11, .int a11), (n12, .int a12)] [] m) : qe_BE kp md d (pc, [n0, n1, n2, n3, n4, n5, n6, n7, n8, n9, n10, n11, n12], qp_ccciiiiiiiiii_ ka0 ka1 ka2 f) := by
  intro vs st m x e
  dsimp only at e ⊢
  unfold qp_ccciiiiiiiiii_ at e
  split at e
  · obtain ⟨pa0, ga0⟩ := qe_b_some e
    have pa0 := Nat.eq_of_beq_eq_true pa0
    subst pa0
    obtain ⟨pa1, ga1⟩ := qe_b_some ga0
    have pa1 := Nat.eq_of_beq_eq_true pa1
    subst pa1
    obtain ⟨pa2, ga2⟩ := qe_b_some ga1
    have pa2 := Nat.eq_of_beq_eq_true pa2
    subst pa2
    exact h _ _ _ _ _ _ _ _ _ _ _ _ ga2
  · cases e
def qp_ccciiiiiiiiiii_ (ka0 : Nat) (ka1 : Nat) (ka2 : Nat) (f : Int32 → Int32 → Int32 → Int32 → Int32 → Int32 → Int32 → Int32 → Int32 → Int32 → Int32 → qm_M → Option qm_R) : qe_P := fun vs st m => match vs, st with
  | [.ref a0, .ref a1, .ref a2, .int a3, .int a4, .int a5, .int a6, .int a7, .int a8, .int a9, .int a10, .int a11, .int a12, .int a13], [] => qe_b (Nat.beq a0 ka0) (qe_b (Nat.beq a1 ka1) (qe_b (Nat.beq a2 ka2) (f a3 a4 a5 a6 a7 a8 a9 a10 a11 a12 a13 m)))
  | _, _ => none
theorem qp_ccciiiiiiiiiii__ok {kp : pm_K} {md : pm_M} {d pc : Nat} {n0 n1 n2 n3 n4 n5 n6 n7 n8 n9 n10 n11 n12 n13 : Nat} {ka0 : Nat} {ka1 : Nat} {ka2 : Nat} {f : Int32 → Int32 → Int32 → Int32 → Int32 → Int32 → Int32 → Int32 → Int32 → Int32 → Int32 → qm_M → Option qm_R} (h : ∀ (a3 : Int32) (a4 : Int32) (a5 : Int32) (a6 : Int32) (a7 : Int32) (a8 : Int32) (a9 : Int32) (a10 : Int32) (a11 : Int32) (a12 : Int32) (a13 : Int32) (m : qm_M), qe_J kp md d (f a3 a4 a5 a6 a7 a8 a9 a10 a11 a12 a13 m) pc [(n0, .ref ka0), (n1, .ref ka1), (n2, .ref ka2), (n3, .int a3), (n4, .int a4), (n5, .int a5), (n6, .int a6), (n7, .int a7), (n8, .int a8), (n9, .int a9), (n10, .int a10), (n11, .int a11), (n12, .int a12), (n13, .int a13)] [] m) : qe_BE kp md d (pc, [n0, n1, n2, n3, n4, n5, n6, n7, n8, n9, n10, n11, n12, n13], qp_ccciiiiiiiiiii_ ka0 ka1 ka2 f) := by
  intro vs st m x e
  dsimp only at e ⊢
  unfold qp_ccciiiiiiiiiii_ at e
  split at e
  · obtain ⟨pa0, ga0⟩ := qe_b_some e
    have pa0 := Nat.eq_of_beq_eq_true pa0
    subst pa0
    obtain ⟨pa1, ga1⟩ := qe_b_some ga0
    have pa1 := Nat.eq_of_beq_eq_true pa1
    subst pa1
    obtain ⟨pa2, ga2⟩ := qe_b_some ga1
    have pa2 := Nat.eq_of_beq_eq_true pa2
    subst pa2
    exact h _ _ _ _ _ _ _ _ _ _ _ _ _ ga2
  · cases e
def qp_ccii_ (ka0 : Nat) (ka1 : Nat) (f : Int32 → Int32 → qm_M → Option qm_R) : qe_P := fun vs st m => match vs, st with
  | [.ref a0, .ref a1, .int a2, .int a3], [] => qe_b (Nat.beq a0 ka0) (qe_b (Nat.beq a1 ka1) (f a2 a3 m))
  | _, _ => none
theorem qp_ccii__ok {kp : pm_K} {md : pm_M} {d pc : Nat} {n0 n1 n2 n3 : Nat} {ka0 : Nat} {ka1 : Nat} {f : Int32 → Int32 → qm_M → Option qm_R} (h : ∀ (a2 : Int32) (a3 : Int32) (m : qm_M), qe_J kp md d (f a2 a3 m) pc [(n0, .ref ka0), (n1, .ref ka1), (n2, .int a2), (n3, .int a3)] [] m) : qe_BE kp md d (pc, [n0, n1, n2, n3], qp_ccii_ ka0 ka1 f) := by
  intro vs st m x e
  dsimp only at e ⊢
  unfold qp_ccii_ at e
  split at e
  · obtain ⟨pa0, ga0⟩ := qe_b_some e
    have pa0 := Nat.eq_of_beq_eq_true pa0
    subst pa0
    obtain ⟨pa1, ga1⟩ := qe_b_some ga0
    have pa1 := Nat.eq_of_beq_eq_true pa1
    subst pa1
    exact h _ _ _ _ ga1
  · cases e
def qp_cciii_ (ka0 : Nat) (ka1 : Nat) (f : Int32 → Int32 → Int32 → qm_M → Option qm_R) : qe_P := fun vs st m => match vs, st with
  | [.ref a0, .ref a1, .int a2, .int a3, .int a4], [] => qe_b (Nat.beq a0 ka0) (qe_b (Nat.beq a1 ka1) (f a2 a3 a4 m))
  | _, _ => none
theorem qp_cciii__ok {kp : pm_K} {md : pm_M} {d pc : Nat} {n0 n1 n2 n3 n4 : Nat} {ka0 : Nat} {ka1 : Nat} {f : Int32 → Int32 → Int32 → qm_M → Option qm_R} (h : ∀ (a2 : Int32) (a3 : Int32) (a4 : Int32) (m : qm_M), qe_J kp md d (f a2 a3 a4 m) pc [(n0, .ref ka0), (n1, .ref ka1), (n2, .int a2), (n3, .int a3), (n4, .int a4)] [] m) : qe_BE kp md d (pc, [n0, n1, n2, n3, n4], qp_cciii_ ka0 ka1 f) := by
  intro vs st m x e
  dsimp only at e ⊢
  unfold qp_cciii_ at e
  split at e
  · obtain ⟨pa0, ga0⟩ := qe_b_some e
    have pa0 := Nat.eq_of_beq_eq_true pa0
    subst pa0
    obtain ⟨pa1, ga1⟩ := qe_b_some ga0
    have pa1 := Nat.eq_of_beq_eq_true pa1
    subst pa1
    exact h _ _ _ _ _ ga1
  · cases e
def qp_cciiii_ (ka0 : Nat) (ka1 : Nat) (f : Int32 → Int32 → Int32 → Int32 → qm_M → Option qm_R) : qe_P := fun vs st m => match vs, st with
  | [.ref a0, .ref a1, .int a2, .int a3, .int a4, .int a5], [] => qe_b (Nat.beq a0 ka0) (qe_b (Nat.beq a1 ka1) (f a2 a3 a4 a5 m))
  | _, _ => none
theorem qp_cciiii__ok {kp : pm_K} {md : pm_M} {d pc : Nat} {n0 n1 n2 n3 n4 n5 : Nat} {ka0 : Nat} {ka1 : Nat} {f : Int32 → Int32 → Int32 → Int32 → qm_M → Option qm_R} (h : ∀ (a2 : Int32) (a3 : Int32) (a4 : Int32) (a5 : Int32) (m : qm_M), qe_J kp md d (f a2 a3 a4 a5 m) pc [(n0, .ref ka0), (n1, .ref ka1), (n2, .int a2), (n3, .int a3), (n4, .int a4), (n5, .int a5)] [] m) : qe_BE kp md d (pc, [n0, n1, n2, n3, n4, n5], qp_cciiii_ ka0 ka1 f) := by
  intro vs st m x e
  dsimp only at e ⊢
  unfold qp_cciiii_ at e
  split at e
  · obtain ⟨pa0, ga0⟩ := qe_b_some e
    have pa0 := Nat.eq_of_beq_eq_true pa0
    subst pa0
    obtain ⟨pa1, ga1⟩ := qe_b_some ga0
    have pa1 := Nat.eq_of_beq_eq_true pa1
    subst pa1
    exact h _ _ _ _ _ _ ga1
  · cases e
def qp_cciiii_i (ka0 : Nat) (ka1 : Nat) (f : Int32 → Int32 → Int32 → Int32 → Int32 → qm_M → Option qm_R) : qe_P := fun vs st m => match vs, st with
  | [.ref a0, .ref a1, .int a2, .int a3, .int a4, .int a5], [.int s0] => qe_b (Nat.beq a0 ka0) (qe_b (Nat.beq a1 ka1) (f a2 a3 a4 a5 s0 m))
  | _, _ => none
theorem qp_cciiii_i_ok {kp : pm_K} {md : pm_M} {d pc : Nat} {n0 n1 n2 n3 n4 n5 : Nat} {ka0 : Nat} {ka1 : Nat} {f : Int32 → Int32 → Int32 → Int32 → Int32 → qm_M → Option qm_R} (h : ∀ (a2 : Int32) (a3 : Int32) (a4 : Int32) (a5 : Int32) (s0 : Int32) (m : qm_M), qe_J kp md d (f a2 a3 a4 a5 s0 m) pc [(n0, .ref ka0), (n1, .ref ka1), (n2, .int a2), (n3, .int a3), (n4, .int a4), (n5, .int a5)] [.int s0] m) : qe_BE kp md d (pc, [n0, n1, n2, n3, n4, n5], qp_cciiii_i ka0 ka1 f) := by
  intro vs st m x e
  dsimp only at e ⊢
  unfold qp_cciiii_i at e
  split at e
  · obtain ⟨pa0, ga0⟩ := qe_b_some e
    have pa0 := Nat.eq_of_beq_eq_true pa0
    subst pa0
    obtain ⟨pa1, ga1⟩ := qe_b_some ga0
    have pa1 := Nat.eq_of_beq_eq_true pa1
    subst pa1
    exact h _ _ _ _ _ _ _ ga1
  · cases e
def qp_cciiii_ii (ka0 : Nat) (ka1 : Nat) (f : Int32 → Int32 → Int32 → Int32 → Int32 → Int32 → qm_M → Option qm_R) : qe_P := fun vs st m => match vs, st with
  | [.ref a0, .ref a1, .int a2, .int a3, .int a4, .int a5], [.int s0, .int s1] => qe_b (Nat.beq a0 ka0) (qe_b (Nat.beq a1 ka1) (f a2 a3 a4 a5 s0 s1 m))
  | _, _ => none
theorem qp_cciiii_ii_ok {kp : pm_K} {md : pm_M} {d pc : Nat} {n0 n1 n2 n3 n4 n5 : Nat} {ka0 : Nat} {ka1 : Nat} {f : Int32 → Int32 → Int32 → Int32 → Int32 → Int32 → qm_M → Option qm_R} (h : ∀ (a2 : Int32) (a3 : Int32) (a4 : Int32) (a5 : Int32) (s0 : Int32) (s1 : Int32) (m : qm_M), qe_J kp md d (f a2 a3 a4 a5 s0 s1 m) pc [(n0, .ref ka0), (n1, .ref ka1), (n2, .int a2), (n3, .int a3), (n4, .int a4), (n5, .int a5)] [.int s0, .int s1] m) : qe_BE kp md d (pc, [n0, n1, n2, n3, n4, n5], qp_cciiii_ii ka0 ka1 f) := by
  intro vs st m x e
  dsimp only at e ⊢
  unfold qp_cciiii_ii at e
  split at e
  · obtain ⟨pa0, ga0⟩ := qe_b_some e
    have pa0 := Nat.eq_of_beq_eq_true pa0
    subst pa0
    obtain ⟨pa1, ga1⟩ := qe_b_some ga0
    have pa1 := Nat.eq_of_beq_eq_true pa1
    subst pa1
    exact h _ _ _ _ _ _ _ _ ga1
  · cases e
def qp_cciiiii_ (ka0 : Nat) (ka1 : Nat) (f : Int32 → Int32 → Int32 → Int32 → Int32 → qm_M → Option qm_R) : qe_P := fun vs st m => match vs, st with
  | [.ref a0, .ref a1, .int a2, .int a3, .int a4, .int a5, .int a6], [] => qe_b (Nat.beq a0 ka0) (qe_b (Nat.beq a1 ka1) (f a2 a3 a4 a5 a6 m))
  | _, _ => none
theorem qp_cciiiii__ok {kp : pm_K} {md : pm_M} {d pc : Nat} {n0 n1 n2 n3 n4 n5 n6 : Nat} {ka0 : Nat} {ka1 : Nat} {f : Int32 → Int32 → Int32 → Int32 → Int32 → qm_M → Option qm_R} (h : ∀ (a2 : Int32) (a3 : Int32) (a4 : Int32) (a5 : Int32) (a6 : Int32) (m : qm_M), qe_J kp md d (f a2 a3 a4 a5 a6 m) pc [(n0, .ref ka0), (n1, .ref ka1), (n2, .int a2), (n3, .int a3), (n4, .int a4), (n5, .int a5), (n6, .int a6)] [] m) : qe_BE kp md d (pc, [n0, n1, n2, n3, n4, n5, n6], qp_cciiiii_ ka0 ka1 f) := by
  intro vs st m x e
  dsimp only at e ⊢
  unfold qp_cciiiii_ at e
  split at e
  · obtain ⟨pa0, ga0⟩ := qe_b_some e
    have pa0 := Nat.eq_of_beq_eq_true pa0
    subst pa0
    obtain ⟨pa1, ga1⟩ := qe_b_some ga0
    have pa1 := Nat.eq_of_beq_eq_true pa1
    subst pa1
    exact h _ _ _ _ _ _ _ ga1
  · cases e
def qp_cciiiii_iiic (ka0 : Nat) (ka1 : Nat) (ks3 : Nat) (f : Int32 → Int32 → Int32 → Int32 → Int32 → Int32 → Int32 → Int32 → qm_M → Option qm_R) : qe_P := fun vs st m => match vs, st with
  | [.ref a0, .ref a1, .int a2, .int a3, .int a4, .int a5, .int a6], [.int s0, .int s1, .int s2, .ref s3] => qe_b (Nat.beq a0 ka0) (qe_b (Nat.beq a1 ka1) (qe_b (Nat.beq s3 ks3) (f a2 a3 a4 a5 a6 s0 s1 s2 m)))
  | _, _ => none
theorem qp_cciiiii_iiic_ok {kp : pm_K} {md : pm_M} {d pc : Nat} {n0 n1 n2 n3 n4 n5 n6 : Nat} {ka0 : Nat} {ka1 : Nat} {ks3 : Nat} {f : Int32 → Int32 → Int32 → Int32 → Int32 → Int32 → Int32 → Int32 → qm_M → Option qm_R} (h : ∀ (a2 : Int32) (a3 : Int32) (a4 : Int32) (a5 : Int32) (a6 : Int32) (s0 : Int32) (s1 : Int32) (s2 : Int32) (m : qm_M), qe_J kp md d (f a2 a3 a4 a5 a6 s0 s1 s2 m) pc [(n0, .ref ka0), (n1, .ref ka1), (n2, .int a2), (n3, .int a3), (n4, .int a4), (n5, .int a5), (n6, .int a6)] [.int s0, .int s1, .int s2, .ref ks3] m) : qe_BE kp md d (pc, [n0, n1, n2, n3, n4, n5, n6], qp_cciiiii_iiic ka0 ka1 ks3 f) := by
  intro vs st m x e
  dsimp only at e ⊢
  unfold qp_cciiiii_iiic at e
  split at e
  · obtain ⟨pa0, ga0⟩ := qe_b_some e
    have pa0 := Nat.eq_of_beq_eq_true pa0
    subst pa0
    obtain ⟨pa1, ga1⟩ := qe_b_some ga0
    have pa1 := Nat.eq_of_beq_eq_true pa1
    subst pa1
    obtain ⟨ps3, gs3⟩ := qe_b_some ga1
    have ps3 := Nat.eq_of_beq_eq_true ps3
    subst ps3
    exact h _ _ _ _ _ _ _ _ _ _ gs3
  · cases e
def qp_cciiiiii_ (ka0 : Nat) (ka1 : Nat) (f : Int32 → Int32 → Int32 → Int32 → Int32 → Int32 → qm_M → Option qm_R) : qe_P := fun vs st m => match vs, st with
  | [.ref a0, .ref a1, .int a2, .int a3, .int a4, .int a5, .int a6, .int a7], [] => qe_b (Nat.beq a0 ka0) (qe_b (Nat.beq a1 ka1) (f a2 a3 a4 a5 a6 a7 m))
  | _, _ => none
theorem qp_cciiiiii__ok {kp : pm_K} {md : pm_M} {d pc : Nat} {n0 n1 n2 n3 n4 n5 n6 n7 : Nat} {ka0 : Nat} {ka1 : Nat} {f : Int32 → Int32 → Int32 → Int32 → Int32 → Int32 → qm_M → Option qm_R} (h : ∀ (a2 : Int32) (a3 : Int32) (a4 : Int32) (a5 : Int32) (a6 : Int32) (a7 : Int32) (m : qm_M), qe_J kp md d (f a2 a3 a4 a5 a6 a7 m) pc [(n0, .ref ka0), (n1, .ref ka1), (n2, .int a2), (n3, .int a3), (n4, .int a4), (n5, .int a5), (n6, .int a6), (n7, .int a7)] [] m) : qe_BE kp md d (pc, [n0, n1, n2, n3, n4, n5, n6, n7], qp_cciiiiii_ ka0 ka1 f) := by
  intro vs st m x e
  dsimp only at e ⊢
  unfold qp_cciiiiii_ at e
  split at e
  · obtain ⟨pa0, ga0⟩ := qe_b_some e
    have pa0 := Nat.eq_of_beq_eq_true pa0
    subst pa0
    obtain ⟨pa1, ga1⟩ := qe_b_some ga0
    have pa1 := Nat.eq_of_beq_eq_true pa1
    subst pa1
    exact h _ _ _ _ _ _ _ _ ga1
  · cases e
def qp_ci_ (ka0 : Nat) (f : Int32 → qm_M → Option qm_R) : qe_P := fun vs st m => match vs, st with
  | [.ref a0, .int a1], [] => qe_b (Nat.beq a0 ka0) (f a1 m)
  | _, _ => none
theorem qp_ci__ok {kp : pm_K} {md : pm_M} {d pc : Nat} {n0 n1 : Nat} {ka0 : Nat} {f : Int32 → qm_M → Option qm_R} (h : ∀ (a1 : Int32) (m : qm_M), qe_J kp md d (f a1 m) pc [(n0, .ref ka0), (n1, .int a1)] [] m) : qe_BE kp md d (pc, [n0, n1], qp_ci_ ka0 f) := by
  intro vs st m x e
  dsimp only at e ⊢
  unfold qp_ci_ at e
  split at e
  · obtain ⟨pa0, ga0⟩ := qe_b_some e
    have pa0 := Nat.eq_of_beq_eq_true pa0
    subst pa0
    exact h _ _ _ ga0
  · cases e
def qp_cii_ (ka0 : Nat) (f : Int32 → Int32 → qm_M → Option qm_R) : qe_P := fun vs st m => match vs, st with
  | [.ref a0, .int a1, .int a2], [] => qe_b (Nat.beq a0 ka0) (f a1 a2 m)
  | _, _ => none
theorem qp_cii__ok {kp : pm_K} {md : pm_M} {d pc : Nat} {n0 n1 n2 : Nat} {ka0 : Nat} {f : Int32 → Int32 → qm_M → Option qm_R} (h : ∀ (a1 : Int32) (a2 : Int32) (m : qm_M), qe_J kp md d (f a1 a2 m) pc [(n0, .ref ka0), (n1, .int a1), (n2, .int a2)] [] m) : qe_BE kp md d (pc, [n0, n1, n2], qp_cii_ ka0 f) := by
  intro vs st m x e
  dsimp only at e ⊢
  unfold qp_cii_ at e
  split at e
  · obtain ⟨pa0, ga0⟩ := qe_b_some e
    have pa0 := Nat.eq_of_beq_eq_true pa0
    subst pa0
    exact h _ _ _ _ ga0
  · cases e
def qp_cii_icc (ka0 : Nat) (ks1 : Nat) (ks2 : Nat) (f : Int32 → Int32 → Int32 → qm_M → Option qm_R) : qe_P := fun vs st m => match vs, st with
  | [.ref a0, .int a1, .int a2], [.int s0, .ref s1, .ref s2] => qe_b (Nat.beq a0 ka0) (qe_b (Nat.beq s1 ks1) (qe_b (Nat.beq s2 ks2) (f a1 a2 s0 m)))
  | _, _ => none
theorem qp_cii_icc_ok {kp : pm_K} {md : pm_M} {d pc : Nat} {n0 n1 n2 : Nat} {ka0 : Nat} {ks1 : Nat} {ks2 : Nat} {f : Int32 → Int32 → Int32 → qm_M → Option qm_R} (h : ∀ (a1 : Int32) (a2 : Int32) (s0 : Int32) (m : qm_M), qe_J kp md d (f a1 a2 s0 m) pc [(n0, .ref ka0), (n1, .int a1), (n2, .int a2)] [.int s0, .ref ks1, .ref ks2] m) : qe_BE kp md d (pc, [n0, n1, n2], qp_cii_icc ka0 ks1 ks2 f) := by
  intro vs st m x e
  dsimp only at e ⊢
  unfold qp_cii_icc at e
  split at e
  · obtain ⟨pa0, ga0⟩ := qe_b_some e
    have pa0 := Nat.eq_of_beq_eq_true pa0
    subst pa0
    obtain ⟨ps1, gs1⟩ := qe_b_some ga0
    have ps1 := Nat.eq_of_beq_eq_true ps1
    subst ps1
    obtain ⟨ps2, gs2⟩ := qe_b_some gs1
    have ps2 := Nat.eq_of_beq_eq_true ps2
    subst ps2
    exact h _ _ _ _ _ gs2
  · cases e
def qp_cii_ii (ka0 : Nat) (f : Int32 → Int32 → Int32 → Int32 → qm_M → Option qm_R) : qe_P := fun vs st m => match vs, st with
  | [.ref a0, .int a1, .int a2], [.int s0, .int s1] => qe_b (Nat.beq a0 ka0) (f a1 a2 s0 s1 m)
  | _, _ => none
theorem qp_cii_ii_ok {kp : pm_K} {md : pm_M} {d pc : Nat} {n0 n1 n2 : Nat} {ka0 : Nat} {f : Int32 → Int32 → Int32 → Int32 → qm_M → Option qm_R} (h : ∀ (a1 : Int32) (a2 : Int32) (s0 : Int32) (s1 : Int32) (m : qm_M), qe_J kp md d (f a1 a2 s0 s1 m) pc [(n0, .ref ka0), (n1, .int a1), (n2, .int a2)] [.int s0, .int s1] m) : qe_BE kp md d (pc, [n0, n1, n2], qp_cii_ii ka0 f) := by
  intro vs st m x e
  dsimp only at e ⊢
  unfold qp_cii_ii at e
  split at e
  · obtain ⟨pa0, ga0⟩ := qe_b_some e
    have pa0 := Nat.eq_of_beq_eq_true pa0
    subst pa0
    exact h _ _ _ _ _ _ ga0
  · cases e
def qp_ciici_ (ka0 : Nat) (ka3 : Nat) (f : Int32 → Int32 → Int32 → qm_M → Option qm_R) : qe_P := fun vs st m => match vs, st with
  | [.ref a0, .int a1, .int a2, .ref a3, .int a4], [] => qe_b (Nat.beq a0 ka0) (qe_b (Nat.beq a3 ka3) (f a1 a2 a4 m))
  | _, _ => none
theorem qp_ciici__ok {kp : pm_K} {md : pm_M} {d pc : Nat} {n0 n1 n2 n3 n4 : Nat} {ka0 : Nat} {ka3 : Nat} {f : Int32 → Int32 → Int32 → qm_M → Option qm_R} (h : ∀ (a1 : Int32) (a2 : Int32) (a4 : Int32) (m : qm_M), qe_J kp md d (f a1 a2 a4 m) pc [(n0, .ref ka0), (n1, .int a1), (n2, .int a2), (n3, .ref ka3), (n4, .int a4)] [] m) : qe_BE kp md d (pc, [n0, n1, n2, n3, n4], qp_ciici_ ka0 ka3 f) := by
  intro vs st m x e
  dsimp only at e ⊢
  unfold qp_ciici_ at e
  split at e
  · obtain ⟨pa0, ga0⟩ := qe_b_some e
    have pa0 := Nat.eq_of_beq_eq_true pa0
    subst pa0
    obtain ⟨pa3, ga3⟩ := qe_b_some ga0
    have pa3 := Nat.eq_of_beq_eq_true pa3
    subst pa3
    exact h _ _ _ _ _ ga3
  · cases e
def qp_ciicii_ (ka0 : Nat) (ka3 : Nat) (f : Int32 → Int32 → Int32 → Int32 → qm_M → Option qm_R) : qe_P := fun vs st m => match vs, st with
  | [.ref a0, .int a1, .int a2, .ref a3, .int a4, .int a5], [] => qe_b (Nat.beq a0 ka0) (qe_b (Nat.beq a3 ka3) (f a1 a2 a4 a5 m))
  | _, _ => none
theorem qp_ciicii__ok {kp : pm_K} {md : pm_M} {d pc : Nat} {n0 n1 n2 n3 n4 n5 : Nat} {ka0 : Nat} {ka3 : Nat} {f : Int32 → Int32 → Int32 → Int32 → qm_M → Option qm_R} (h : ∀ (a1 : Int32) (a2 : Int32) (a4 : Int32) (a5 : Int32) (m : qm_M), qe_J kp md d (f a1 a2 a4 a5 m) pc [(n0, .ref ka0), (n1, .int a1), (n2, .int a2), (n3, .ref ka3), (n4, .int a4), (n5, .int a5)] [] m) : qe_BE kp md d (pc, [n0, n1, n2, n3, n4, n5], qp_ciicii_ ka0 ka3 f) := by
  intro vs st m x e
  dsimp only at e ⊢
  unfold qp_ciicii_ at e
  split at e
  · obtain ⟨pa0, ga0⟩ := qe_b_some e
    have pa0 := Nat.eq_of_beq_eq_true pa0
    subst pa0
    obtain ⟨pa3, ga3⟩ := qe_b_some ga0
    have pa3 := Nat.eq_of_beq_eq_true pa3
    subst pa3
    exact h _ _ _ _ _ _ ga3
  · cases e
def qp_ciii_ (ka0 : Nat) (f : Int32 → Int32 → Int32 → qm_M → Option qm_R) : qe_P := fun vs st m => match vs, st with
  | [.ref a0, .int a1, .int a2, .int a3], [] => qe_b (Nat.beq a0 ka0) (f a1 a2 a3 m)
  | _, _ => none
theorem qp_ciii__ok {kp : pm_K} {md : pm_M} {d pc : Nat} {n0 n1 n2 n3 : Nat} {ka0 : Nat} {f : Int32 → Int32 → Int32 → qm_M → Option qm_R} (h : ∀ (a1 : Int32) (a2 : Int32) (a3 : Int32) (m : qm_M), qe_J kp md d (f a1 a2 a3 m) pc [(n0, .ref ka0), (n1, .int a1), (n2, .int a2), (n3, .int a3)] [] m) : qe_BE kp md d (pc, [n0, n1, n2, n3], qp_ciii_ ka0 f) := by
  intro vs st m x e
  dsimp only at e ⊢
  unfold qp_ciii_ at e
  split at e
  · obtain ⟨pa0, ga0⟩ := qe_b_some e
    have pa0 := Nat.eq_of_beq_eq_true pa0
    subst pa0
    exact h _ _ _ _ _ ga0
  · cases e
def qp_ciiii_ (ka0 : Nat) (f : Int32 → Int32 → Int32 → Int32 → qm_M → Option qm_R) : qe_P := fun vs st m => match vs, st with
  | [.ref a0, .int a1, .int a2, .int a3, .int a4], [] => qe_b (Nat.beq a0 ka0) (f a1 a2 a3 a4 m)
  | _, _ => none
theorem qp_ciiii__ok {kp : pm_K} {md : pm_M} {d pc : Nat} {n0 n1 n2 n3 n4 : Nat} {ka0 : Nat} {f : Int32 → Int32 → Int32 → Int32 → qm_M → Option qm_R} (h : ∀ (a1 : Int32) (a2 : Int32) (a3 : Int32) (a4 : Int32) (m : qm_M), qe_J kp md d (f a1 a2 a3 a4 m) pc [(n0, .ref ka0), (n1, .int a1), (n2, .int a2), (n3, .int a3), (n4, .int a4)] [] m) : qe_BE kp md d (pc, [n0, n1, n2, n3, n4], qp_ciiii_ ka0 f) := by
  intro vs st m x e
  dsimp only at e ⊢
  unfold qp_ciiii_ at e
  split at e
  · obtain ⟨pa0, ga0⟩ := qe_b_some e
    have pa0 := Nat.eq_of_beq_eq_true pa0
    subst pa0
    exact h _ _ _ _ _ _ ga0
  · cases e
def qp_ciiiii_ (ka0 : Nat) (f : Int32 → Int32 → Int32 → Int32 → Int32 → qm_M → Option qm_R) : qe_P := fun vs st m => match vs, st with
  | [.ref a0, .int a1, .int a2, .int a3, .int a4, .int a5], [] => qe_b (Nat.beq a0 ka0) (f a1 a2 a3 a4 a5 m)
  | _, _ => none
theorem qp_ciiiii__ok {kp : pm_K} {md : pm_M} {d pc : Nat} {n0 n1 n2 n3 n4 n5 : Nat} {ka0 : Nat} {f : Int32 → Int32 → Int32 → Int32 → Int32 → qm_M → Option qm_R} (h : ∀ (a1 : Int32) (a2 : Int32) (a3 : Int32) (a4 : Int32) (a5 : Int32) (m : qm_M), qe_J kp md d (f a1 a2 a3 a4 a5 m) pc [(n0, .ref ka0), (n1, .int a1), (n2, .int a2), (n3, .int a3), (n4, .int a4), (n5, .int a5)] [] m) : qe_BE kp md d (pc, [n0, n1, n2, n3, n4, n5], qp_ciiiii_ ka0 f) := by
  intro vs st m x e
  dsimp only at e ⊢
  unfold qp_ciiiii_ at e
  split at e
  · obtain ⟨pa0, ga0⟩ := qe_b_some e
    have pa0 := Nat.eq_of_beq_eq_true pa0
    subst pa0
    exact h _ _ _ _ _ _ _ ga0
  · cases e
def qp_ciiiiii_ (ka0 : Nat) (f : Int32 → Int32 → Int32 → Int32 → Int32 → Int32 → qm_M → Option qm_R) : qe_P := fun vs st m => match vs, st with
  | [.ref a0, .int a1, .int a2, .int a3, .int a4, .int a5, .int a6], [] => qe_b (Nat.beq a0 ka0) (f a1 a2 a3 a4 a5 a6 m)
  | _, _ => none
theorem qp_ciiiiii__ok {kp : pm_K} {md : pm_M} {d pc : Nat} {n0 n1 n2 n3 n4 n5 n6 : Nat} {ka0 : Nat} {f : Int32 → Int32 → Int32 → Int32 → Int32 → Int32 → qm_M → Option qm_R} (h : ∀ (a1 : Int32) (a2 : Int32) (a3 : Int32) (a4 : Int32) (a5 : Int32) (a6 : Int32) (m : qm_M), qe_J kp md d (f a1 a2 a3 a4 a5 a6 m) pc [(n0, .ref ka0), (n1, .int a1), (n2, .int a2), (n3, .int a3), (n4, .int a4), (n5, .int a5), (n6, .int a6)] [] m) : qe_BE kp md d (pc, [n0, n1, n2, n3, n4, n5, n6], qp_ciiiiii_ ka0 f) := by
  intro vs st m x e
  dsimp only at e ⊢
  unfold qp_ciiiiii_ at e
  split at e
  · obtain ⟨pa0, ga0⟩ := qe_b_some e
    have pa0 := Nat.eq_of_beq_eq_true pa0
    subst pa0
    exact h _ _ _ _ _ _ _ _ ga0
  · cases e
def qp_ciiiiii_i (ka0 : Nat) (f : Int32 → Int32 → Int32 → Int32 → Int32 → Int32 → Int32 → qm_M → Option qm_R) : qe_P := fun vs st m => match vs, st with
  | [.ref a0, .int a1, .int a2, .int a3, .int a4, .int a5, .int a6], [.int s0] => qe_b (Nat.beq a0 ka0) (f a1 a2 a3 a4 a5 a6 s0 m)
  | _, _ => none
theorem qp_ciiiiii_i_ok {kp : pm_K} {md : pm_M} {d pc : Nat} {n0 n1 n2 n3 n4 n5 n6 : Nat} {ka0 : Nat} {f : Int32 → Int32 → Int32 → Int32 → Int32 → Int32 → Int32 → qm_M → Option qm_R} (h : ∀ (a1 : Int32) (a2 : Int32) (a3 : Int32) (a4 : Int32) (a5 : Int32) (a6 : Int32) (s0 : Int32) (m : qm_M), qe_J kp md d (f a1 a2 a3 a4 a5 a6 s0 m) pc [(n0, .ref ka0), (n1, .int a1), (n2, .int a2), (n3, .int a3), (n4, .int a4), (n5, .int a5), (n6, .int a6)] [.int s0] m) : qe_BE kp md d (pc, [n0, n1, n2, n3, n4, n5, n6], qp_ciiiiii_i ka0 f) := by
  intro vs st m x e
  dsimp only at e ⊢
  unfold qp_ciiiiii_i at e
  split at e
  · obtain ⟨pa0, ga0⟩ := qe_b_some e
    have pa0 := Nat.eq_of_beq_eq_true pa0
    subst pa0
    exact h _ _ _ _ _ _ _ _ _ ga0
  · cases e
def qp_ciri_ (ka0 : Nat) (f : Int32 → Nat → Int32 → qm_M → Option qm_R) : qe_P := fun vs st m => match vs, st with
  | [.ref a0, .int a1, .ref a2, .int a3], [] => qe_b (Nat.beq a0 ka0) (f a1 a2 a3 m)
  | _, _ => none
theorem qp_ciri__ok {kp : pm_K} {md : pm_M} {d pc : Nat} {n0 n1 n2 n3 : Nat} {ka0 : Nat} {f : Int32 → Nat → Int32 → qm_M → Option qm_R} (h : ∀ (a1 : Int32) (a2 : Nat) (a3 : Int32) (m : qm_M), qe_J kp md d (f a1 a2 a3 m) pc [(n0, .ref ka0), (n1, .int a1), (n2, .ref a2), (n3, .int a3)] [] m) : qe_BE kp md d (pc, [n0, n1, n2, n3], qp_ciri_ ka0 f) := by
  intro vs st m x e
  dsimp only at e ⊢
  unfold qp_ciri_ at e
  split at e
  · obtain ⟨pa0, ga0⟩ := qe_b_some e
    have pa0 := Nat.eq_of_beq_eq_true pa0
    subst pa0
    exact h _ _ _ _ _ ga0
  · cases e
def qp_clii_ (ka0 : Nat) (f : Int64 → Int32 → Int32 → qm_M → Option qm_R) : qe_P := fun vs st m => match vs, st with
  | [.ref a0, .long a1, .int a2, .int a3], [] => qe_b (Nat.beq a0 ka0) (f a1 a2 a3 m)
  | _, _ => none
theorem qp_clii__ok {kp : pm_K} {md : pm_M} {d pc : Nat} {n0 n1 n2 n3 : Nat} {ka0 : Nat} {f : Int64 → Int32 → Int32 → qm_M → Option qm_R} (h : ∀ (a1 : Int64) (a2 : Int32) (a3 : Int32) (m : qm_M), qe_J kp md d (f a1 a2 a3 m) pc [(n0, .ref ka0), (n1, .long a1), (n2, .int a2), (n3, .int a3)] [] m) : qe_BE kp md d (pc, [n0, n1, n2, n3], qp_clii_ ka0 f) := by
  intro vs st m x e
  dsimp only at e ⊢
  unfold qp_clii_ at e
  split at e
  · obtain ⟨pa0, ga0⟩ := qe_b_some e
    have pa0 := Nat.eq_of_beq_eq_true pa0
    subst pa0
    exact h _ _ _ _ _ ga0
  · cases e
def qp_icii_ (ka1 : Nat) (f : Int32 → Int32 → Int32 → qm_M → Option qm_R) : qe_P := fun vs st m => match vs, st with
  | [.int a0, .ref a1, .int a2, .int a3], [] => qe_b (Nat.beq a1 ka1) (f a0 a2 a3 m)
  | _, _ => none
theorem qp_icii__ok {kp : pm_K} {md : pm_M} {d pc : Nat} {n0 n1 n2 n3 : Nat} {ka1 : Nat} {f : Int32 → Int32 → Int32 → qm_M → Option qm_R} (h : ∀ (a0 : Int32) (a2 : Int32) (a3 : Int32) (m : qm_M), qe_J kp md d (f a0 a2 a3 m) pc [(n0, .int a0), (n1, .ref ka1), (n2, .int a2), (n3, .int a3)] [] m) : qe_BE kp md d (pc, [n0, n1, n2, n3], qp_icii_ ka1 f) := by
  intro vs st m x e
  dsimp only at e ⊢
  unfold qp_icii_ at e
  split at e
  · obtain ⟨pa1, ga1⟩ := qe_b_some e
    have pa1 := Nat.eq_of_beq_eq_true pa1
    subst pa1
    exact h _ _ _ _ _ ga1
  · cases e
def qp_iciirii_ (ka1 : Nat) (f : Int32 → Int32 → Int32 → Nat → Int32 → Int32 → qm_M → Option qm_R) : qe_P := fun vs st m => match vs, st with
  | [.int a0, .ref a1, .int a2, .int a3, .ref a4, .int a5, .int a6], [] => qe_b (Nat.beq a1 ka1) (f a0 a2 a3 a4 a5 a6 m)
  | _, _ => none
theorem qp_iciirii__ok {kp : pm_K} {md : pm_M} {d pc : Nat} {n0 n1 n2 n3 n4 n5 n6 : Nat} {ka1 : Nat} {f : Int32 → Int32 → Int32 → Nat → Int32 → Int32 → qm_M → Option qm_R} (h : ∀ (a0 : Int32) (a2 : Int32) (a3 : Int32) (a4 : Nat) (a5 : Int32) (a6 : Int32) (m : qm_M), qe_J kp md d (f a0 a2 a3 a4 a5 a6 m) pc [(n0, .int a0), (n1, .ref ka1), (n2, .int a2), (n3, .int a3), (n4, .ref a4), (n5, .int a5), (n6, .int a6)] [] m) : qe_BE kp md d (pc, [n0, n1, n2, n3, n4, n5, n6], qp_iciirii_ ka1 f) := by
  intro vs st m x e
  dsimp only at e ⊢
  unfold qp_iciirii_ at e
  split at e
  · obtain ⟨pa1, ga1⟩ := qe_b_some e
    have pa1 := Nat.eq_of_beq_eq_true pa1
    subst pa1
    exact h _ _ _ _ _ _ _ _ ga1
  · cases e
def qp_ii_ (f : Int32 → Int32 → qm_M → Option qm_R) : qe_P := fun vs st m => match vs, st with
  | [.int a0, .int a1], [] => f a0 a1 m
  | _, _ => none
theorem qp_ii__ok {kp : pm_K} {md : pm_M} {d pc : Nat} {n0 n1 : Nat} {f : Int32 → Int32 → qm_M → Option qm_R} (h : ∀ (a0 : Int32) (a1 : Int32) (m : qm_M), qe_J kp md d (f a0 a1 m) pc [(n0, .int a0), (n1, .int a1)] [] m) : qe_BE kp md d (pc, [n0, n1], qp_ii_ f) := by
  intro vs st m x e
  dsimp only at e ⊢
  unfold qp_ii_ at e
  split at e
  · exact h _ _ _ _ e
  · cases e
def qp_iii_ (f : Int32 → Int32 → Int32 → qm_M → Option qm_R) : qe_P := fun vs st m => match vs, st with
  | [.int a0, .int a1, .int a2], [] => f a0 a1 a2 m
  | _, _ => none
theorem qp_iii__ok {kp : pm_K} {md : pm_M} {d pc : Nat} {n0 n1 n2 : Nat} {f : Int32 → Int32 → Int32 → qm_M → Option qm_R} (h : ∀ (a0 : Int32) (a1 : Int32) (a2 : Int32) (m : qm_M), qe_J kp md d (f a0 a1 a2 m) pc [(n0, .int a0), (n1, .int a1), (n2, .int a2)] [] m) : qe_BE kp md d (pc, [n0, n1, n2], qp_iii_ f) := by
  intro vs st m x e
  dsimp only at e ⊢
  unfold qp_iii_ at e
  split at e
  · exact h _ _ _ _ _ e
  · cases e
def qp_iili_ (f : Int32 → Int32 → Int64 → Int32 → qm_M → Option qm_R) : qe_P := fun vs st m => match vs, st with
  | [.int a0, .int a1, .long a2, .int a3], [] => f a0 a1 a2 a3 m
  | _, _ => none
theorem qp_iili__ok {kp : pm_K} {md : pm_M} {d pc : Nat} {n0 n1 n2 n3 : Nat} {f : Int32 → Int32 → Int64 → Int32 → qm_M → Option qm_R} (h : ∀ (a0 : Int32) (a1 : Int32) (a2 : Int64) (a3 : Int32) (m : qm_M), qe_J kp md d (f a0 a1 a2 a3 m) pc [(n0, .int a0), (n1, .int a1), (n2, .long a2), (n3, .int a3)] [] m) : qe_BE kp md d (pc, [n0, n1, n2, n3], qp_iili_ f) := by
  intro vs st m x e
  dsimp only at e ⊢
  unfold qp_iili_ at e
  split at e
  · exact h _ _ _ _ _ _ e
  · cases e
def qp_ili_ (f : Int32 → Int64 → Int32 → qm_M → Option qm_R) : qe_P := fun vs st m => match vs, st with
  | [.int a0, .long a1, .int a2], [] => f a0 a1 a2 m
  | _, _ => none
theorem qp_ili__ok {kp : pm_K} {md : pm_M} {d pc : Nat} {n0 n1 n2 : Nat} {f : Int32 → Int64 → Int32 → qm_M → Option qm_R} (h : ∀ (a0 : Int32) (a1 : Int64) (a2 : Int32) (m : qm_M), qe_J kp md d (f a0 a1 a2 m) pc [(n0, .int a0), (n1, .long a1), (n2, .int a2)] [] m) : qe_BE kp md d (pc, [n0, n1, n2], qp_ili_ f) := by
  intro vs st m x e
  dsimp only at e ⊢
  unfold qp_ili_ at e
  split at e
  · exact h _ _ _ _ _ e
  · cases e
def qp_ri_ (f : Nat → Int32 → qm_M → Option qm_R) : qe_P := fun vs st m => match vs, st with
  | [.ref a0, .int a1], [] => f a0 a1 m
  | _, _ => none
theorem qp_ri__ok {kp : pm_K} {md : pm_M} {d pc : Nat} {n0 n1 : Nat} {f : Nat → Int32 → qm_M → Option qm_R} (h : ∀ (a0 : Nat) (a1 : Int32) (m : qm_M), qe_J kp md d (f a0 a1 m) pc [(n0, .ref a0), (n1, .int a1)] [] m) : qe_BE kp md d (pc, [n0, n1], qp_ri_ f) := by
  intro vs st m x e
  dsimp only at e ⊢
  unfold qp_ri_ at e
  split at e
  · exact h _ _ _ _ e
  · cases e
def qp_rii_ (f : Nat → Int32 → Int32 → qm_M → Option qm_R) : qe_P := fun vs st m => match vs, st with
  | [.ref a0, .int a1, .int a2], [] => f a0 a1 a2 m
  | _, _ => none
theorem qp_rii__ok {kp : pm_K} {md : pm_M} {d pc : Nat} {n0 n1 n2 : Nat} {f : Nat → Int32 → Int32 → qm_M → Option qm_R} (h : ∀ (a0 : Nat) (a1 : Int32) (a2 : Int32) (m : qm_M), qe_J kp md d (f a0 a1 a2 m) pc [(n0, .ref a0), (n1, .int a1), (n2, .int a2)] [] m) : qe_BE kp md d (pc, [n0, n1, n2], qp_rii_ f) := by
  intro vs st m x e
  dsimp only at e ⊢
  unfold qp_rii_ at e
  split at e
  · exact h _ _ _ _ _ e
  · cases e
def qp_riii_ (f : Nat → Int32 → Int32 → Int32 → qm_M → Option qm_R) : qe_P := fun vs st m => match vs, st with
  | [.ref a0, .int a1, .int a2, .int a3], [] => f a0 a1 a2 a3 m
  | _, _ => none
theorem qp_riii__ok {kp : pm_K} {md : pm_M} {d pc : Nat} {n0 n1 n2 n3 : Nat} {f : Nat → Int32 → Int32 → Int32 → qm_M → Option qm_R} (h : ∀ (a0 : Nat) (a1 : Int32) (a2 : Int32) (a3 : Int32) (m : qm_M), qe_J kp md d (f a0 a1 a2 a3 m) pc [(n0, .ref a0), (n1, .int a1), (n2, .int a2), (n3, .int a3)] [] m) : qe_BE kp md d (pc, [n0, n1, n2, n3], qp_riii_ f) := by
  intro vs st m x e
  dsimp only at e ⊢
  unfold qp_riii_ at e
  split at e
  · exact h _ _ _ _ _ _ e
  · cases e
def qp_rri_ (f : Nat → Nat → Int32 → qm_M → Option qm_R) : qe_P := fun vs st m => match vs, st with
  | [.ref a0, .ref a1, .int a2], [] => f a0 a1 a2 m
  | _, _ => none
theorem qp_rri__ok {kp : pm_K} {md : pm_M} {d pc : Nat} {n0 n1 n2 : Nat} {f : Nat → Nat → Int32 → qm_M → Option qm_R} (h : ∀ (a0 : Nat) (a1 : Nat) (a2 : Int32) (m : qm_M), qe_J kp md d (f a0 a1 a2 m) pc [(n0, .ref a0), (n1, .ref a1), (n2, .int a2)] [] m) : qe_BE kp md d (pc, [n0, n1, n2], qp_rri_ f) := by
  intro vs st m x e
  dsimp only at e ⊢
  unfold qp_rri_ at e
  split at e
  · exact h _ _ _ _ _ e
  · cases e
