theorem d_L_law_813 : decode code 813 = .ok (.iadd, 1) := by decide +kernel
theorem d_L_law_814 : decode code 814 = .ok (.iaload, 1) := by decide +kernel
theorem d_L_law_815 : decode code 815 = .ok (.invokevirtual 111, 3) := by decide +kernel
theorem d_L_law_818 : decode code 818 = .ok (.if_icmp .eq 5, 3) := by decide +kernel
theorem d_L_law_821 : decode code 821 = .ok (.iconst 0, 1) := by decide +kernel
theorem d_L_law_822 : decode code 822 = .ok (.ireturn, 1) := by decide +kernel
theorem d_L_law_823 : decode code 823 = .ok (.iinc 4 5, 3) := by decide +kernel
theorem d_L_law_826 : decode code 826 = .ok (.goto (-793), 3) := by decide +kernel
theorem d_L_law_829 : decode code 829 = .ok (.iconst 1, 1) := by decide +kernel
theorem d_L_law_830 : decode code 830 = .ok (.ireturn, 1) := by decide +kernel
