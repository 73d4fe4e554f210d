/-! Points of a polygon: what holds for four or five of them (rows by wip/whole/math/polylem.py). -/
def cone (o : Nat → Nat → Nat → Bool) (b x y u : Nat) : Bool := (o b x u == o b x y) && (o b u y == o b x y)
/-- x lies in the angle at b that is left of the way u, b, v -/
def linL (o : Nat → Nat → Nat → Bool) (b u v x : Nat) : Bool := cond (o u b v) (o b x u && o x b v) (!(o b x v && o x b u))
theorem bandI {a b : Bool} (h : a = true) (k : b = true) : (a && b) = true := by rw [h, k]; rfl
theorem crsD {o : Nat → Nat → Nat → Bool} {a b c d : Nat} (n1 : a ≠ c) (n2 : a ≠ d) (n3 : b ≠ c) (n4 : b ≠ d) : crs o a b c d = ccFC (o a b c) (o a b d) (o c d a) (o c d b) := by
  unfold crs
  rw [bne_iff_ne.mpr n1, bne_iff_ne.mpr n2, bne_iff_ne.mpr n3, bne_iff_ne.mpr n4]; rfl
theorem witD {o : Nat → Nat → Nat → Bool} {q a b c : Nat} (n1 : q ≠ a) (n2 : q ≠ b) (n3 : q ≠ c) : wit o q a b c = ccFW (o a b q) (o b c q) (o c a q) (o a b c) := by
  unfold wit
  rw [bne_iff_ne.mpr n1, bne_iff_ne.mpr n2, bne_iff_ne.mpr n3]; rfl
theorem pg_tri5 {P : Nat → Prop} {o : Nat → Nat → Nat → Bool} (C : CC P o) {a b x p q : Nat} (pa : P a) (pb : P b) (px : P x) (pp : P p) (pq : P q) (nab : a ≠ b) (nax : a ≠ x) (nap : a ≠ p) (naq : a ≠ q) (nbx : b ≠ x) (nbp : b ≠ p) (nbq : b ≠ q) (nxp : x ≠ p) (nxq : x ≠ q) (npq : p ≠ q) : (crs o a b p q ^^ (crs o a x p q ^^ crs o b x p q)) = (wit o p a b x ^^ wit o q a b x) := by
  have k0 := ccA4 C pa pb px pp nab nax nap nbx nbp nxp
  have k1 := ccA4 C pa pb px pq nab nax naq nbx nbq nxq
  have k2 := ccA4 C pa pb pp pq nab nap naq nbp nbq npq
  have k3 := ccA4 C pa px pp pq nax nap naq nxp nxq npq
  have k4 := ccA4 C pb px pp pq nbx nbp nbq nxp nxq npq
  have k5 := ccG5 C pa pb px pp pq nab nax nap naq nbx nbp nbq nxp nxq npq
  have k6 := ccG5 C pb pa px pp pq nab.symm nbx nbp nbq nax nap naq nxp nxq npq
  rw [cr3 C pa pb px nab nax nbx, cr3 C pa pb pp nab nap nbp, cr3 C pa pb pq nab naq nbq] at k6
  have k7 := ccG5 C px pa pb pp pq nax.symm nbx.symm nxp nxq nab nap naq nbp nbq npq
  rw [cr2 C pa pb px nab nax nbx, cr3 C pa px pp nax nap nxp, cr3 C pa px pq nax naq nxq, cr3 C pb px pp nbx nbp nxp, cr3 C pb px pq nbx nbq nxq] at k7
  have k8 := ccG5 C pp pa pb px pq nap.symm nbp.symm nxp.symm npq nab nax naq nbx nbq nxq
  rw [cr2 C pa pb pp nab nap nbp, cr2 C pa px pp nax nap nxp, cr3 C pa pp pq nap naq npq, cr2 C pb px pp nbx nbp nxp, cr3 C pb pp pq nbp nbq npq, cr3 C px pp pq nxp nxq npq] at k8
  have k9 := ccG5 C pq pa pb px pp naq.symm nbq.symm nxq.symm npq.symm nab nax nap nbx nbp nxp
  rw [cr2 C pa pb pq nab naq nbq, cr2 C pa px pq nax naq nxq, cr2 C pa pp pq nap naq npq, cr2 C pb px pq nbx nbq nxq, cr2 C pb pp pq nbp nbq npq, cr2 C px pp pq nxp nxq npq] at k9
  rw [crsD nap naq nbp nbq, crsD nap naq nxp nxq, crsD nbp nbq nxp nxq, witD nap.symm nbp.symm nxp.symm, witD naq.symm nbq.symm nxq.symm, cr1 C pa pp pq nap naq npq, cr1 C pb pp pq nbp nbq npq, cr1 C px pp pq nxp nxq npq, cr3 C pa px pp nax nap nxp, cr3 C pa px pq nax naq nxq]
  generalize o a b x = z0 at *
  generalize o a b p = z1 at *
  generalize o a b q = z2 at *
  generalize o a x p = z3 at *
  generalize o a x q = z4 at *
  generalize o a p q = z5 at *
  generalize o b x p = z6 at *
  generalize o b x q = z7 at *
  generalize o b p q = z8 at *
  generalize o x p q = z9 at *
  clear C
  have kk := bandI k0 (bandI k1 (bandI k2 (bandI k3 (bandI k4 (bandI k5 (bandI k6 (bandI k7 (bandI k8 (k9)))))))))
  clear k0 k1 k2 k3 k4 k5 k6 k7 k8 k9
  revert kk
  revert z0 z1 z2 z3 z4 z5 z6 z7 z8 z9
  decide +kernel
theorem pg_tri4 {P : Nat → Prop} {o : Nat → Nat → Nat → Bool} (C : CC P o) {a b x q : Nat} (pa : P a) (pb : P b) (px : P x) (pq : P q) (nab : a ≠ b) (nax : a ≠ x) (naq : a ≠ q) (nbx : b ≠ x) (nbq : b ≠ q) (nxq : x ≠ q) : crs o a x b q = (cone o b a x q ^^ wit o q a b x) := by
  have k0 := ccA4 C pa pb px pq nab nax naq nbx nbq nxq
  unfold cone
  rw [crsD nab naq nbx.symm nxq, witD naq.symm nbq.symm nxq.symm, cr4 C pa pb px nab nax nbx, cr3 C pa pb pq nab naq nbq, cr3 C pa pb px nab nax nbx, cr1 C pa pb pq nab naq nbq, cr4 C pb px pq nbx nbq nxq, cr3 C pa px pq nax naq nxq]
  generalize o a b x = z0 at *
  generalize o a b q = z1 at *
  generalize o a x q = z2 at *
  generalize o b x q = z3 at *
  clear C
  have kk := k0
  clear k0
  revert kk
  revert z0 z1 z2 z3
  decide +kernel
theorem pg_st5 {P : Nat → Prop} {o : Nat → Nat → Nat → Bool} (C : CC P o) {b a x u v : Nat} (pb : P b) (pa : P a) (px : P x) (pu : P u) (pv : P v) (nba : b ≠ a) (nbx : b ≠ x) (nbu : b ≠ u) (nbv : b ≠ v) (nax : a ≠ x) (nau : a ≠ u) (nav : a ≠ v) (nxu : x ≠ u) (nxv : x ≠ v) (nuv : u ≠ v) : (cone o b a x u ^^ cone o b a x v) = (linL o b u v x ^^ linL o b u v a) := by
  have k0 := ccG5 C pb pa px pu pv nba nbx nbu nbv nax nau nav nxu nxv nuv
  unfold cone linL
  rw [cr3 C pb pa pu nba nbu nau, cr3 C pb pa pv nba nbv nav, cr4 C pb px pu nbx nbu nxu, cr4 C pb px pv nbx nbv nxv, cr3 C pb pu pv nbu nbv nuv, cr3 C pb px pu nbx nbu nxu, cr3 C pb px pv nbx nbv nxv]
  generalize o b a x = z0 at *
  generalize o b a u = z1 at *
  generalize o b a v = z2 at *
  generalize o b x u = z3 at *
  generalize o b x v = z4 at *
  generalize o b u v = z5 at *
  clear C
  have kk := k0
  clear k0
  revert kk
  revert z0 z1 z2 z3 z4 z5
  decide +kernel
theorem pg_st4 {P : Nat → Prop} {o : Nat → Nat → Nat → Bool} (C : CC P o) {b v x u : Nat} (pb : P b) (pv : P v) (px : P x) (pu : P u) (nbv : b ≠ v) (nbx : b ≠ x) (nbu : b ≠ u) (nvx : v ≠ x) (nvu : v ≠ u) (nxu : x ≠ u) : cone o b v x u = (linL o b u v x ^^ o b v x) := by
  unfold cone linL
  rw [cr4 C pb px pu nbx nbu nxu, cr4 C pb pv px nbv nbx nvx, cr2 C pb pv pu nbv nbu nvu, cr3 C pb px pu nbx nbu nxu, cr2 C pb pv px nbv nbx nvx]
  generalize o b v x = z0 at *
  generalize o b v u = z1 at *
  generalize o b x u = z2 at *
  clear C
  revert z0 z1 z2
  decide +kernel
theorem pg_st4b {P : Nat → Prop} {o : Nat → Nat → Nat → Bool} (C : CC P o) {b u x v : Nat} (pb : P b) (pu : P u) (px : P x) (pv : P v) (nbu : b ≠ u) (nbx : b ≠ x) (nbv : b ≠ v) (nux : u ≠ x) (nuv : u ≠ v) (nxv : x ≠ v) : cone o b u x v = (linL o b u v x ^^ o u b x) := by
  unfold cone linL
  rw [cr4 C pb px pv nbx nbv nxv, cr4 C pb pu px nbu nbx nux, cr3 C pb pu pv nbu nbv nuv, cr3 C pb pu px nbu nbx nux, cr2 C pb pu px nbu nbx nux, cr3 C pb px pv nbx nbv nxv]
  generalize o b u x = z0 at *
  generalize o b u v = z1 at *
  generalize o b x v = z2 at *
  clear C
  revert z0 z1 z2
  decide +kernel
theorem pg_spl {P : Nat → Prop} {o : Nat → Nat → Nat → Bool} (C : CC P o) {b d u v x : Nat} (pb : P b) (pd : P d) (pu : P u) (pv : P v) (px : P x) (nbd : b ≠ d) (nbu : b ≠ u) (nbv : b ≠ v) (nbx : b ≠ x) (ndu : d ≠ u) (ndv : d ≠ v) (ndx : d ≠ x) (nuv : u ≠ v) (nux : u ≠ x) (nvx : v ≠ x) : linL o b u v d = true → linL o b u v x = (linL o b d v x ^^ linL o b u d x) := by
  have k0 := ccG5 C pb pd pu pv px nbd nbu nbv nbx ndu ndv ndx nuv nux nvx
  unfold linL
  rw [cr4 C pb pd px nbd nbx ndx, cr4 C pb pu px nbu nbx nux, cr4 C pb pv px nbv nbx nvx, cr3 C pb pd pu nbd nbu ndu, cr3 C pb pd pv nbd nbv ndv, cr2 C pb pd pu nbd nbu ndu, cr3 C pb pu pv nbu nbv nuv, cr2 C pb pd px nbd nbx ndx, cr2 C pb pu px nbu nbx nux, cr2 C pb pv px nbv nbx nvx]
  generalize o b d u = z0 at *
  generalize o b d v = z1 at *
  generalize o b d x = z2 at *
  generalize o b u v = z3 at *
  generalize o b u x = z4 at *
  generalize o b v x = z5 at *
  clear C
  have kk := k0
  clear k0
  revert kk
  revert z0 z1 z2 z3 z4 z5
  decide +kernel
theorem pg_sub {P : Nat → Prop} {o : Nat → Nat → Nat → Bool} (C : CC P o) {b d u v x : Nat} (pb : P b) (pd : P d) (pu : P u) (pv : P v) (px : P x) (nbd : b ≠ d) (nbu : b ≠ u) (nbv : b ≠ v) (nbx : b ≠ x) (ndu : d ≠ u) (ndv : d ≠ v) (ndx : d ≠ x) (nuv : u ≠ v) (nux : u ≠ x) (nvx : v ≠ x) : linL o b u v d = true → (linL o b d v x = true → linL o b u v x = true) ∧ (linL o b u d x = true → linL o b u v x = true) := by
  have k0 := ccG5 C pb pd pu pv px nbd nbu nbv nbx ndu ndv ndx nuv nux nvx
  unfold linL
  rw [cr4 C pb pd px nbd nbx ndx, cr4 C pb pu px nbu nbx nux, cr4 C pb pv px nbv nbx nvx, cr3 C pb pd pu nbd nbu ndu, cr3 C pb pd pv nbd nbv ndv, cr2 C pb pd pu nbd nbu ndu, cr3 C pb pu pv nbu nbv nuv, cr2 C pb pd px nbd nbx ndx, cr2 C pb pu px nbu nbx nux, cr2 C pb pv px nbv nbx nvx]
  generalize o b d u = z0 at *
  generalize o b d v = z1 at *
  generalize o b d x = z2 at *
  generalize o b u v = z3 at *
  generalize o b u x = z4 at *
  generalize o b v x = z5 at *
  clear C
  have kk := k0
  clear k0
  revert kk
  revert z0 z1 z2 z3 z4 z5
  decide +kernel
theorem pg_mid {P : Nat → Prop} {o : Nat → Nat → Nat → Bool} (C : CC P o) {a b m p q : Nat} (pa : P a) (pb : P b) (pm : P m) (pp : P p) (pq : P q) (nab : a ≠ b) (nam : a ≠ m) (nap : a ≠ p) (naq : a ≠ q) (nbm : b ≠ m) (nbp : b ≠ p) (nbq : b ≠ q) (nmp : m ≠ p) (nmq : m ≠ q) (npq : p ≠ q) : o m b p = o a b p → o m b q = o a b q → o m a p = o b a p → o m a q = o b a q → crs o a b p q = false → crs o m b p q = false := by
  have k0 := ccA4 C pa pb pm pp nab nam nap nbm nbp nmp
  have k1 := ccA4 C pa pb pm pq nab nam naq nbm nbq nmq
  have k2 := ccA4 C pa pb pp pq nab nap naq nbp nbq npq
  have k3 := ccA4 C pa pm pp pq nam nap naq nmp nmq npq
  have k4 := ccA4 C pb pm pp pq nbm nbp nbq nmp nmq npq
  have k5 := ccG5 C pa pb pm pp pq nab nam nap naq nbm nbp nbq nmp nmq npq
  have k6 := ccG5 C pb pa pm pp pq nab.symm nbm nbp nbq nam nap naq nmp nmq npq
  rw [cr3 C pa pb pm nab nam nbm, cr3 C pa pb pp nab nap nbp, cr3 C pa pb pq nab naq nbq] at k6
  have k7 := ccG5 C pm pa pb pp pq nam.symm nbm.symm nmp nmq nab nap naq nbp nbq npq
  rw [cr2 C pa pb pm nab nam nbm, cr3 C pa pm pp nam nap nmp, cr3 C pa pm pq nam naq nmq, cr3 C pb pm pp nbm nbp nmp, cr3 C pb pm pq nbm nbq nmq] at k7
  have k8 := ccG5 C pp pa pb pm pq nap.symm nbp.symm nmp.symm npq nab nam naq nbm nbq nmq
  rw [cr2 C pa pb pp nab nap nbp, cr2 C pa pm pp nam nap nmp, cr3 C pa pp pq nap naq npq, cr2 C pb pm pp nbm nbp nmp, cr3 C pb pp pq nbp nbq npq, cr3 C pm pp pq nmp nmq npq] at k8
  have k9 := ccG5 C pq pa pb pm pp naq.symm nbq.symm nmq.symm npq.symm nab nam nap nbm nbp nmp
  rw [cr2 C pa pb pq nab naq nbq, cr2 C pa pm pq nam naq nmq, cr2 C pa pp pq nap naq npq, cr2 C pb pm pq nbm nbq nmq, cr2 C pb pp pq nbp nbq npq, cr2 C pm pp pq nmp nmq npq] at k9
  rw [crsD nap naq nbp nbq, crsD nmp nmq nbp nbq, cr3 C pa pb pp nab nap nbp, cr3 C pa pb pq nab naq nbq, cr3 C pa pm pp nam nap nmp, cr3 C pa pm pq nam naq nmq, cr3 C pb pm pp nbm nbp nmp, cr3 C pb pm pq nbm nbq nmq, cr1 C pa pp pq nap naq npq, cr1 C pb pp pq nbp nbq npq, cr1 C pm pp pq nmp nmq npq]
  generalize o a b m = z0 at *
  generalize o a b p = z1 at *
  generalize o a b q = z2 at *
  generalize o a m p = z3 at *
  generalize o a m q = z4 at *
  generalize o a p q = z5 at *
  generalize o b m p = z6 at *
  generalize o b m q = z7 at *
  generalize o b p q = z8 at *
  generalize o m p q = z9 at *
  clear C
  have kk := bandI k0 (bandI k1 (bandI k2 (bandI k3 (bandI k4 (bandI k5 (bandI k6 (bandI k7 (bandI k8 (k9)))))))))
  clear k0 k1 k2 k3 k4 k5 k6 k7 k8 k9
  revert kk
  revert z0 z1 z2 z3 z4 z5 z6 z7 z8 z9
  decide +kernel
theorem pg_midA {P : Nat → Prop} {o : Nat → Nat → Nat → Bool} (C : CC P o) {a b m q : Nat} (pa : P a) (pb : P b) (pm : P m) (pq : P q) (nab : a ≠ b) (nam : a ≠ m) (naq : a ≠ q) (nbm : b ≠ m) (nbq : b ≠ q) (nmq : m ≠ q) : o m b q = o a b q → o m a q = o b a q → crs o m b a q = false := by
  have k0 := ccA4 C pa pb pm pq nab nam naq nbm nbq nmq
  rw [crsD nam.symm nmq nab.symm nbq, cr4 C pa pb pq nab naq nbq, cr4 C pa pm pq nam naq nmq, cr3 C pa pb pq nab naq nbq, cr3 C pa pm pq nam naq nmq, cr5 C pa pb pm nab nam nbm, cr3 C pb pm pq nbm nbq nmq]
  generalize o a b m = z0 at *
  generalize o a b q = z1 at *
  generalize o a m q = z2 at *
  generalize o b m q = z3 at *
  clear C
  have kk := k0
  clear k0
  revert kk
  revert z0 z1 z2 z3
  decide +kernel
theorem pg_e1 {P : Nat → Prop} {o : Nat → Nat → Nat → Bool} (C : CC P o) {i j p q x : Nat} (pi : P i) (pj : P j) (pp : P p) (pq : P q) (px : P x) (nij : i ≠ j) (nip : i ≠ p) (niq : i ≠ q) (nix : i ≠ x) (njp : j ≠ p) (njq : j ≠ q) (njx : j ≠ x) (npq : p ≠ q) (npx : p ≠ x) (nqx : q ≠ x) : o i j p = true → o i j q = true → o i j x = false → crs o i x p q = false := by
  have k0 := ccA4 C pi pj pp pq nij nip niq njp njq npq
  have k1 := ccA4 C pi pj pp px nij nip nix njp njx npx
  have k2 := ccA4 C pi pj pq px nij niq nix njq njx nqx
  have k3 := ccA4 C pi pp pq px nip niq nix npq npx nqx
  have k4 := ccA4 C pj pp pq px njp njq njx npq npx nqx
  have k5 := ccG5 C pi pj pp pq px nij nip niq nix njp njq njx npq npx nqx
  have k6 := ccG5 C pj pi pp pq px nij.symm njp njq njx nip niq nix npq npx nqx
  rw [cr3 C pi pj pp nij nip njp, cr3 C pi pj pq nij niq njq, cr3 C pi pj px nij nix njx] at k6
  have k7 := ccG5 C pp pi pj pq px nip.symm njp.symm npq npx nij niq nix njq njx nqx
  rw [cr2 C pi pj pp nij nip njp, cr3 C pi pp pq nip niq npq, cr3 C pi pp px nip nix npx, cr3 C pj pp pq njp njq npq, cr3 C pj pp px njp njx npx] at k7
  have k8 := ccG5 C pq pi pj pp px niq.symm njq.symm npq.symm nqx nij nip nix njp njx npx
  rw [cr2 C pi pj pq nij niq njq, cr2 C pi pp pq nip niq npq, cr3 C pi pq px niq nix nqx, cr2 C pj pp pq njp njq npq, cr3 C pj pq px njq njx nqx, cr3 C pp pq px npq npx nqx] at k8
  have k9 := ccG5 C px pi pj pp pq nix.symm njx.symm npx.symm nqx.symm nij nip niq njp njq npq
  rw [cr2 C pi pj px nij nix njx, cr2 C pi pp px nip nix npx, cr2 C pi pq px niq nix nqx, cr2 C pj pp px njp njx npx, cr2 C pj pq px njq njx nqx, cr2 C pp pq px npq npx nqx] at k9
  rw [crsD nip niq npx.symm nqx.symm, cr4 C pi pp px nip nix npx, cr4 C pi pq px niq nix nqx, cr1 C pi pp pq nip niq npq]
  generalize o i j p = z0 at *
  generalize o i j q = z1 at *
  generalize o i j x = z2 at *
  generalize o i p q = z3 at *
  generalize o i p x = z4 at *
  generalize o i q x = z5 at *
  generalize o j p q = z6 at *
  generalize o j p x = z7 at *
  generalize o j q x = z8 at *
  generalize o p q x = z9 at *
  clear C
  have kk := bandI k0 (bandI k1 (bandI k2 (bandI k3 (bandI k4 (bandI k5 (bandI k6 (bandI k7 (bandI k8 (k9)))))))))
  clear k0 k1 k2 k3 k4 k5 k6 k7 k8 k9
  revert kk
  revert z0 z1 z2 z3 z4 z5 z6 z7 z8 z9
  decide +kernel
theorem pg_e1b {P : Nat → Prop} {o : Nat → Nat → Nat → Bool} (C : CC P o) {i j q x : Nat} (pi : P i) (pj : P j) (pq : P q) (px : P x) (nij : i ≠ j) (niq : i ≠ q) (nix : i ≠ x) (njq : j ≠ q) (njx : j ≠ x) (nqx : q ≠ x) : o i j q = true → o i j x = false → crs o i x j q = false := by
  have k0 := ccA4 C pi pj pq px nij niq nix njq njx nqx
  rw [crsD nij niq njx.symm nqx.symm, cr4 C pi pj px nij nix njx, cr4 C pi pq px niq nix nqx, cr1 C pi pj pq nij niq njq]
  generalize o i j q = z0 at *
  generalize o i j x = z1 at *
  generalize o i q x = z2 at *
  generalize o j q x = z3 at *
  clear C
  have kk := k0
  clear k0
  revert kk
  revert z0 z1 z2 z3
  decide +kernel
theorem pg_e2 {P : Nat → Prop} {o : Nat → Nat → Nat → Bool} (C : CC P o) {i j p q x : Nat} (pi : P i) (pj : P j) (pp : P p) (pq : P q) (px : P x) (nij : i ≠ j) (nip : i ≠ p) (niq : i ≠ q) (nix : i ≠ x) (njp : j ≠ p) (njq : j ≠ q) (njx : j ≠ x) (npq : p ≠ q) (npx : p ≠ x) (nqx : q ≠ x) : o i j p = true → o i j q = true → o i j x = true → wit o x i p q = false → crs o i x p q = (o i x p ^^ o i x q) := by
  have k0 := ccA4 C pi pj pp pq nij nip niq njp njq npq
  have k1 := ccA4 C pi pj pp px nij nip nix njp njx npx
  have k2 := ccA4 C pi pj pq px nij niq nix njq njx nqx
  have k3 := ccA4 C pi pp pq px nip niq nix npq npx nqx
  have k4 := ccA4 C pj pp pq px njp njq njx npq npx nqx
  have k5 := ccG5 C pi pj pp pq px nij nip niq nix njp njq njx npq npx nqx
  have k6 := ccG5 C pj pi pp pq px nij.symm njp njq njx nip niq nix npq npx nqx
  rw [cr3 C pi pj pp nij nip njp, cr3 C pi pj pq nij niq njq, cr3 C pi pj px nij nix njx] at k6
  have k7 := ccG5 C pp pi pj pq px nip.symm njp.symm npq npx nij niq nix njq njx nqx
  rw [cr2 C pi pj pp nij nip njp, cr3 C pi pp pq nip niq npq, cr3 C pi pp px nip nix npx, cr3 C pj pp pq njp njq npq, cr3 C pj pp px njp njx npx] at k7
  have k8 := ccG5 C pq pi pj pp px niq.symm njq.symm npq.symm nqx nij nip nix njp njx npx
  rw [cr2 C pi pj pq nij niq njq, cr2 C pi pp pq nip niq npq, cr3 C pi pq px niq nix nqx, cr2 C pj pp pq njp njq npq, cr3 C pj pq px njq njx nqx, cr3 C pp pq px npq npx nqx] at k8
  have k9 := ccG5 C px pi pj pp pq nix.symm njx.symm npx.symm nqx.symm nij nip niq njp njq npq
  rw [cr2 C pi pj px nij nix njx, cr2 C pi pp px nip nix npx, cr2 C pi pq px niq nix nqx, cr2 C pj pp px njp njx npx, cr2 C pj pq px njq njx nqx, cr2 C pp pq px npq npx nqx] at k9
  rw [witD nix.symm npx.symm nqx.symm, crsD nip niq npx.symm nqx.symm, cr4 C pi pp px nip nix npx, cr4 C pi pq px niq nix nqx, cr1 C pi pp pq nip niq npq, cr3 C pi pq px niq nix nqx]
  generalize o i j p = z0 at *
  generalize o i j q = z1 at *
  generalize o i j x = z2 at *
  generalize o i p q = z3 at *
  generalize o i p x = z4 at *
  generalize o i q x = z5 at *
  generalize o j p q = z6 at *
  generalize o j p x = z7 at *
  generalize o j q x = z8 at *
  generalize o p q x = z9 at *
  clear C
  have kk := bandI k0 (bandI k1 (bandI k2 (bandI k3 (bandI k4 (bandI k5 (bandI k6 (bandI k7 (bandI k8 (k9)))))))))
  clear k0 k1 k2 k3 k4 k5 k6 k7 k8 k9
  revert kk
  revert z0 z1 z2 z3 z4 z5 z6 z7 z8 z9
  decide +kernel
theorem pg_e2b {P : Nat → Prop} {o : Nat → Nat → Nat → Bool} (C : CC P o) {i j q x : Nat} (pi : P i) (pj : P j) (pq : P q) (px : P x) (nij : i ≠ j) (niq : i ≠ q) (nix : i ≠ x) (njq : j ≠ q) (njx : j ≠ x) (nqx : q ≠ x) : o i j q = true → o i j x = true → wit o x i j q = false → crs o i x j q = (o i x j ^^ o i x q) := by
  have k0 := ccA4 C pi pj pq px nij niq nix njq njx nqx
  rw [witD nix.symm njx.symm nqx.symm, crsD nij niq njx.symm nqx.symm, cr4 C pi pj px nij nix njx, cr4 C pi pq px niq nix nqx, cr1 C pi pj pq nij niq njq, cr3 C pi pq px niq nix nqx]
  generalize o i j q = z0 at *
  generalize o i j x = z1 at *
  generalize o i q x = z2 at *
  generalize o j q x = z3 at *
  clear C
  have kk := k0
  clear k0
  revert kk
  revert z0 z1 z2 z3
  decide +kernel
theorem pg_e3 {P : Nat → Prop} {o : Nat → Nat → Nat → Bool} (C : CC P o) {i j v x : Nat} (pi : P i) (pj : P j) (pv : P v) (px : P x) (nij : i ≠ j) (niv : i ≠ v) (nix : i ≠ x) (njv : j ≠ v) (njx : j ≠ x) (nvx : v ≠ x) : o i j v = true → linL o i j v x = (cond (o i j x) (!(o i x v ^^ o i x j)) true) := by
  unfold linL
  rw [cr4 C pi pj px nij nix njx, cr4 C pi pv px niv nix nvx, cr3 C pi pj pv nij niv njv, cr2 C pi pj px nij nix njx, cr2 C pi pv px niv nix nvx]
  generalize o i j v = z0 at *
  generalize o i j x = z1 at *
  generalize o i v x = z2 at *
  clear C
  revert z0 z1 z2
  decide +kernel
theorem pg_rev {P : Nat → Prop} {o : Nat → Nat → Nat → Bool} (C : CC P o) {b u v x : Nat} (pb : P b) (pu : P u) (pv : P v) (px : P x) (nbu : b ≠ u) (nbv : b ≠ v) (nbx : b ≠ x) (nuv : u ≠ v) (nux : u ≠ x) (nvx : v ≠ x) : linL o b v u x = !(linL o b u v x) := by
  unfold linL
  rw [cr4 C pb pu px nbu nbx nux, cr4 C pb pv px nbv nbx nvx, cr3 C pb pu pv nbu nbv nuv, cr2 C pb pu pv nbu nbv nuv, cr2 C pb pu px nbu nbx nux, cr2 C pb pv px nbv nbx nvx]
  generalize o b u v = z0 at *
  generalize o b u x = z1 at *
  generalize o b v x = z2 at *
  clear C
  revert z0 z1 z2
  decide +kernel

