theorem bdL_law_800 : (decode cL_law 800 = .ok (.invokevirtual 94, 3)) ∧ (decode cL_law 803 = .ok (.pop, 1)) ∧ (decode cL_law 804 = .ok (.aload_n 2, 1)) ∧ (decode cL_law 805 = .ok (.aload_n 0, 1)) ∧ (decode cL_law 806 = .ok (.iload_n 3, 1)) ∧ (decode cL_law 807 = .ok (.iconst 1, 1)) ∧ (decode cL_law 808 = .ok (.iadd, 1)) ∧ (decode cL_law 809 = .ok (.iaload, 1)) ∧ (decode cL_law 810 = .ok (.aload_n 0, 1)) ∧ (decode cL_law 811 = .ok (.iload_n 3, 1)) ∧ (decode cL_law 812 = .ok (.iconst 2, 1)) ∧ (decode cL_law 813 = .ok (.iadd, 1)) ∧ (decode cL_law 814 = .ok (.iaload, 1)) ∧ (decode cL_law 815 = .ok (.invokevirtual 97, 3)) ∧ (decode cL_law 818 = .ok (.pop, 1)) ∧ (decode cL_law 819 = .ok (.goto 606, 3)) ∧ (decode cL_law 822 = .ok (.aload_n 1, 1)) ∧ (decode cL_law 823 = .ok (.invokevirtual 98, 3)) ∧ (decode cL_law 826 = .ok (.pop, 1)) ∧ (decode cL_law 827 = .ok (.aload_n 2, 1)) ∧ (decode cL_law 828 = .ok (.invokevirtual 101, 3)) ∧ (decode cL_law 831 = .ok (.pop, 1)) ∧ (decode cL_law 832 = .ok (.goto 593, 3)) ∧ (decode cL_law 835 = .ok (.aload_n 1, 1)) ∧ (decode cL_law 836 = .ok (.aload_n 0, 1)) ∧ (decode cL_law 837 = .ok (.iload_n 3, 1)) ∧ (decode cL_law 838 = .ok (.iconst 1, 1)) ∧ (decode cL_law 839 = .ok (.iadd, 1)) ∧ (decode cL_law 840 = .ok (.iaload, 1)) ∧ (decode cL_law 841 = .ok (.invokevirtual 102, 3)) ∧ (decode cL_law 844 = .ok (.pop, 1)) ∧ (decode cL_law 845 = .ok (.aload_n 2, 1)) ∧ (decode cL_law 846 = .ok (.aload_n 0, 1)) ∧ (decode cL_law 847 = .ok (.iload_n 3, 1)) ∧ (decode cL_law 848 = .ok (.iconst 1, 1)) ∧ (decode cL_law 849 = .ok (.iadd, 1)) ∧ (decode cL_law 850 = .ok (.iaload, 1)) ∧ (decode cL_law 851 = .ok (.invokevirtual 105, 3)) ∧ (decode cL_law 854 = .ok (.pop, 1)) ∧ (decode cL_law 855 = .ok (.goto 570, 3)) := by decide +kernel
theorem dL_law_800 : decode cL_law 800 = .ok (.invokevirtual 94, 3) := bdL_law_800.1
theorem dL_law_803 : decode cL_law 803 = .ok (.pop, 1) := bdL_law_800.2.1
theorem dL_law_804 : decode cL_law 804 = .ok (.aload_n 2, 1) := bdL_law_800.2.2.1
theorem dL_law_805 : decode cL_law 805 = .ok (.aload_n 0, 1) := bdL_law_800.2.2.2.1
theorem dL_law_806 : decode cL_law 806 = .ok (.iload_n 3, 1) := bdL_law_800.2.2.2.2.1
theorem dL_law_807 : decode cL_law 807 = .ok (.iconst 1, 1) := bdL_law_800.2.2.2.2.2.1
theorem dL_law_808 : decode cL_law 808 = .ok (.iadd, 1) := bdL_law_800.2.2.2.2.2.2.1
theorem dL_law_809 : decode cL_law 809 = .ok (.iaload, 1) := bdL_law_800.2.2.2.2.2.2.2.1
theorem dL_law_810 : decode cL_law 810 = .ok (.aload_n 0, 1) := bdL_law_800.2.2.2.2.2.2.2.2.1
theorem dL_law_811 : decode cL_law 811 = .ok (.iload_n 3, 1) := bdL_law_800.2.2.2.2.2.2.2.2.2.1
theorem dL_law_812 : decode cL_law 812 = .ok (.iconst 2, 1) := bdL_law_800.2.2.2.2.2.2.2.2.2.2.1
theorem dL_law_813 : decode cL_law 813 = .ok (.iadd, 1) := bdL_law_800.2.2.2.2.2.2.2.2.2.2.2.1
theorem dL_law_814 : decode cL_law 814 = .ok (.iaload, 1) := bdL_law_800.2.2.2.2.2.2.2.2.2.2.2.2.1
theorem dL_law_815 : decode cL_law 815 = .ok (.invokevirtual 97, 3) := bdL_law_800.2.2.2.2.2.2.2.2.2.2.2.2.2.1
theorem dL_law_818 : decode cL_law 818 = .ok (.pop, 1) := bdL_law_800.2.2.2.2.2.2.2.2.2.2.2.2.2.2.1
theorem dL_law_819 : decode cL_law 819 = .ok (.goto 606, 3) := bdL_law_800.2.2.2.2.2.2.2.2.2.2.2.2.2.2.2.1
theorem dL_law_822 : decode cL_law 822 = .ok (.aload_n 1, 1) := bdL_law_800.2.2.2.2.2.2.2.2.2.2.2.2.2.2.2.2.1
theorem dL_law_823 : decode cL_law 823 = .ok (.invokevirtual 98, 3) := bdL_law_800.2.2.2.2.2.2.2.2.2.2.2.2.2.2.2.2.2.1
theorem dL_law_826 : decode cL_law 826 = .ok (.pop, 1) := bdL_law_800.2.2.2.2.2.2.2.2.2.2.2.2.2.2.2.2.2.2.1
theorem dL_law_827 : decode cL_law 827 = .ok (.aload_n 2, 1) := bdL_law_800.2.2.2.2.2.2.2.2.2.2.2.2.2.2.2.2.2.2.2.1
theorem dL_law_828 : decode cL_law 828 = .ok (.invokevirtual 101, 3) := bdL_law_800.2.2.2.2.2.2.2.2.2.2.2.2.2.2.2.2.2.2.2.2.1
theorem dL_law_831 : decode cL_law 831 = .ok (.pop, 1) := bdL_law_800.2.2.2.2.2.2.2.2.2.2.2.2.2.2.2.2.2.2.2.2.2.1
theorem dL_law_832 : decode cL_law 832 = .ok (.goto 593, 3) := bdL_law_800.2.2.2.2.2.2.2.2.2.2.2.2.2.2.2.2.2.2.2.2.2.2.1
theorem dL_law_835 : decode cL_law 835 = .ok (.aload_n 1, 1) := bdL_law_800.2.2.2.2.2.2.2.2.2.2.2.2.2.2.2.2.2.2.2.2.2.2.2.1
theorem dL_law_836 : decode cL_law 836 = .ok (.aload_n 0, 1) := bdL_law_800.2.2.2.2.2.2.2.2.2.2.2.2.2.2.2.2.2.2.2.2.2.2.2.2.1
theorem dL_law_837 : decode cL_law 837 = .ok (.iload_n 3, 1) := bdL_law_800.2.2.2.2.2.2.2.2.2.2.2.2.2.2.2.2.2.2.2.2.2.2.2.2.2.1
theorem dL_law_838 : decode cL_law 838 = .ok (.iconst 1, 1) := bdL_law_800.2.2.2.2.2.2.2.2.2.2.2.2.2.2.2.2.2.2.2.2.2.2.2.2.2.2.1
theorem dL_law_839 : decode cL_law 839 = .ok (.iadd, 1) := bdL_law_800.2.2.2.2.2.2.2.2.2.2.2.2.2.2.2.2.2.2.2.2.2.2.2.2.2.2.2.1
theorem dL_law_840 : decode cL_law 840 = .ok (.iaload, 1) := bdL_law_800.2.2.2.2.2.2.2.2.2.2.2.2.2.2.2.2.2.2.2.2.2.2.2.2.2.2.2.2.1
theorem dL_law_841 : decode cL_law 841 = .ok (.invokevirtual 102, 3) := bdL_law_800.2.2.2.2.2.2.2.2.2.2.2.2.2.2.2.2.2.2.2.2.2.2.2.2.2.2.2.2.2.1
theorem dL_law_844 : decode cL_law 844 = .ok (.pop, 1) := bdL_law_800.2.2.2.2.2.2.2.2.2.2.2.2.2.2.2.2.2.2.2.2.2.2.2.2.2.2.2.2.2.2.1
theorem dL_law_845 : decode cL_law 845 = .ok (.aload_n 2, 1) := bdL_law_800.2.2.2.2.2.2.2.2.2.2.2.2.2.2.2.2.2.2.2.2.2.2.2.2.2.2.2.2.2.2.2.1
theorem dL_law_846 : decode cL_law 846 = .ok (.aload_n 0, 1) := bdL_law_800.2.2.2.2.2.2.2.2.2.2.2.2.2.2.2.2.2.2.2.2.2.2.2.2.2.2.2.2.2.2.2.2.1
theorem dL_law_847 : decode cL_law 847 = .ok (.iload_n 3, 1) := bdL_law_800.2.2.2.2.2.2.2.2.2.2.2.2.2.2.2.2.2.2.2.2.2.2.2.2.2.2.2.2.2.2.2.2.2.1
theorem dL_law_848 : decode cL_law 848 = .ok (.iconst 1, 1) := bdL_law_800.2.2.2.2.2.2.2.2.2.2.2.2.2.2.2.2.2.2.2.2.2.2.2.2.2.2.2.2.2.2.2.2.2.2.1
theorem dL_law_849 : decode cL_law 849 = .ok (.iadd, 1) := bdL_law_800.2.2.2.2.2.2.2.2.2.2.2.2.2.2.2.2.2.2.2.2.2.2.2.2.2.2.2.2.2.2.2.2.2.2.2.1
theorem dL_law_850 : decode cL_law 850 = .ok (.iaload, 1) := bdL_law_800.2.2.2.2.2.2.2.2.2.2.2.2.2.2.2.2.2.2.2.2.2.2.2.2.2.2.2.2.2.2.2.2.2.2.2.2.1
theorem dL_law_851 : decode cL_law 851 = .ok (.invokevirtual 105, 3) := bdL_law_800.2.2.2.2.2.2.2.2.2.2.2.2.2.2.2.2.2.2.2.2.2.2.2.2.2.2.2.2.2.2.2.2.2.2.2.2.2.1
theorem dL_law_854 : decode cL_law 854 = .ok (.pop, 1) := bdL_law_800.2.2.2.2.2.2.2.2.2.2.2.2.2.2.2.2.2.2.2.2.2.2.2.2.2.2.2.2.2.2.2.2.2.2.2.2.2.2.1
theorem dL_law_855 : decode cL_law 855 = .ok (.goto 570, 3) := bdL_law_800.2.2.2.2.2.2.2.2.2.2.2.2.2.2.2.2.2.2.2.2.2.2.2.2.2.2.2.2.2.2.2.2.2.2.2.2.2.2.2
theorem bdL_law_858 : (decode cL_law 858 = .ok (.aload_n 1, 1)) ∧ (decode cL_law 859 = .ok (.aload_n 0, 1)) ∧ (decode cL_law 860 = .ok (.iload_n 3, 1)) ∧ (decode cL_law 861 = .ok (.iconst 1, 1)) ∧ (decode cL_law 862 = .ok (.iadd, 1)) ∧ (decode cL_law 863 = .ok (.iaload, 1)) ∧ (decode cL_law 864 = .ok (.aload_n 0, 1)) ∧ (decode cL_law 865 = .ok (.iload_n 3, 1)) ∧ (decode cL_law 866 = .ok (.iconst 2, 1)) ∧ (decode cL_law 867 = .ok (.iadd, 1)) ∧ (decode cL_law 868 = .ok (.iaload, 1)) ∧ (decode cL_law 869 = .ok (.aload_n 0, 1)) ∧ (decode cL_law 870 = .ok (.iload_n 3, 1)) ∧ (decode cL_law 871 = .ok (.iconst 3, 1)) ∧ (decode cL_law 872 = .ok (.iadd, 1)) ∧ (decode cL_law 873 = .ok (.iaload, 1)) ∧ (decode cL_law 874 = .ok (.invokevirtual 106, 3)) ∧ (decode cL_law 877 = .ok (.pop, 1)) ∧ (decode cL_law 878 = .ok (.aload_n 2, 1)) ∧ (decode cL_law 879 = .ok (.aload_n 0, 1)) ∧ (decode cL_law 880 = .ok (.iload_n 3, 1)) ∧ (decode cL_law 881 = .ok (.iconst 1, 1)) ∧ (decode cL_law 882 = .ok (.iadd, 1)) ∧ (decode cL_law 883 = .ok (.iaload, 1)) ∧ (decode cL_law 884 = .ok (.aload_n 0, 1)) ∧ (decode cL_law 885 = .ok (.iload_n 3, 1)) ∧ (decode cL_law 886 = .ok (.iconst 2, 1)) ∧ (decode cL_law 887 = .ok (.iadd, 1)) ∧ (decode cL_law 888 = .ok (.iaload, 1)) ∧ (decode cL_law 889 = .ok (.aload_n 0, 1)) ∧ (decode cL_law 890 = .ok (.iload_n 3, 1)) ∧ (decode cL_law 891 = .ok (.iconst 3, 1)) ∧ (decode cL_law 892 = .ok (.iadd, 1)) ∧ (decode cL_law 893 = .ok (.iaload, 1)) ∧ (decode cL_law 894 = .ok (.invokevirtual 109, 3)) ∧ (decode cL_law 897 = .ok (.pop, 1)) ∧ (decode cL_law 898 = .ok (.goto 527, 3)) ∧ (decode cL_law 901 = .ok (.aload_n 1, 1)) ∧ (decode cL_law 902 = .ok (.aload_n 0, 1)) ∧ (decode cL_law 903 = .ok (.iload_n 3, 1)) := by decide +kernel
theorem dL_law_858 : decode cL_law 858 = .ok (.aload_n 1, 1) := bdL_law_858.1
theorem dL_law_859 : decode cL_law 859 = .ok (.aload_n 0, 1) := bdL_law_858.2.1
theorem dL_law_860 : decode cL_law 860 = .ok (.iload_n 3, 1) := bdL_law_858.2.2.1
theorem dL_law_861 : decode cL_law 861 = .ok (.iconst 1, 1) := bdL_law_858.2.2.2.1
theorem dL_law_862 : decode cL_law 862 = .ok (.iadd, 1) := bdL_law_858.2.2.2.2.1
theorem dL_law_863 : decode cL_law 863 = .ok (.iaload, 1) := bdL_law_858.2.2.2.2.2.1
theorem dL_law_864 : decode cL_law 864 = .ok (.aload_n 0, 1) := bdL_law_858.2.2.2.2.2.2.1
theorem dL_law_865 : decode cL_law 865 = .ok (.iload_n 3, 1) := bdL_law_858.2.2.2.2.2.2.2.1
theorem dL_law_866 : decode cL_law 866 = .ok (.iconst 2, 1) := bdL_law_858.2.2.2.2.2.2.2.2.1
theorem dL_law_867 : decode cL_law 867 = .ok (.iadd, 1) := bdL_law_858.2.2.2.2.2.2.2.2.2.1
theorem dL_law_868 : decode cL_law 868 = .ok (.iaload, 1) := bdL_law_858.2.2.2.2.2.2.2.2.2.2.1
theorem dL_law_869 : decode cL_law 869 = .ok (.aload_n 0, 1) := bdL_law_858.2.2.2.2.2.2.2.2.2.2.2.1
theorem dL_law_870 : decode cL_law 870 = .ok (.iload_n 3, 1) := bdL_law_858.2.2.2.2.2.2.2.2.2.2.2.2.1
theorem dL_law_871 : decode cL_law 871 = .ok (.iconst 3, 1) := bdL_law_858.2.2.2.2.2.2.2.2.2.2.2.2.2.1
theorem dL_law_872 : decode cL_law 872 = .ok (.iadd, 1) := bdL_law_858.2.2.2.2.2.2.2.2.2.2.2.2.2.2.1
theorem dL_law_873 : decode cL_law 873 = .ok (.iaload, 1) := bdL_law_858.2.2.2.2.2.2.2.2.2.2.2.2.2.2.2.1
theorem dL_law_874 : decode cL_law 874 = .ok (.invokevirtual 106, 3) := bdL_law_858.2.2.2.2.2.2.2.2.2.2.2.2.2.2.2.2.1
theorem dL_law_877 : decode cL_law 877 = .ok (.pop, 1) := bdL_law_858.2.2.2.2.2.2.2.2.2.2.2.2.2.2.2.2.2.1
theorem dL_law_878 : decode cL_law 878 = .ok (.aload_n 2, 1) := bdL_law_858.2.2.2.2.2.2.2.2.2.2.2.2.2.2.2.2.2.2.1
theorem dL_law_879 : decode cL_law 879 = .ok (.aload_n 0, 1) := bdL_law_858.2.2.2.2.2.2.2.2.2.2.2.2.2.2.2.2.2.2.2.1
theorem dL_law_880 : decode cL_law 880 = .ok (.iload_n 3, 1) := bdL_law_858.2.2.2.2.2.2.2.2.2.2.2.2.2.2.2.2.2.2.2.2.1
theorem dL_law_881 : decode cL_law 881 = .ok (.iconst 1, 1) := bdL_law_858.2.2.2.2.2.2.2.2.2.2.2.2.2.2.2.2.2.2.2.2.2.1
theorem dL_law_882 : decode cL_law 882 = .ok (.iadd, 1) := bdL_law_858.2.2.2.2.2.2.2.2.2.2.2.2.2.2.2.2.2.2.2.2.2.2.1
theorem dL_law_883 : decode cL_law 883 = .ok (.iaload, 1) := bdL_law_858.2.2.2.2.2.2.2.2.2.2.2.2.2.2.2.2.2.2.2.2.2.2.2.1
theorem dL_law_884 : decode cL_law 884 = .ok (.aload_n 0, 1) := bdL_law_858.2.2.2.2.2.2.2.2.2.2.2.2.2.2.2.2.2.2.2.2.2.2.2.2.1
theorem dL_law_885 : decode cL_law 885 = .ok (.iload_n 3, 1) := bdL_law_858.2.2.2.2.2.2.2.2.2.2.2.2.2.2.2.2.2.2.2.2.2.2.2.2.2.1
theorem dL_law_886 : decode cL_law 886 = .ok (.iconst 2, 1) := bdL_law_858.2.2.2.2.2.2.2.2.2.2.2.2.2.2.2.2.2.2.2.2.2.2.2.2.2.2.1
theorem dL_law_887 : decode cL_law 887 = .ok (.iadd, 1) := bdL_law_858.2.2.2.2.2.2.2.2.2.2.2.2.2.2.2.2.2.2.2.2.2.2.2.2.2.2.2.1
theorem dL_law_888 : decode cL_law 888 = .ok (.iaload, 1) := bdL_law_858.2.2.2.2.2.2.2.2.2.2.2.2.2.2.2.2.2.2.2.2.2.2.2.2.2.2.2.2.1
theorem dL_law_889 : decode cL_law 889 = .ok (.aload_n 0, 1) := bdL_law_858.2.2.2.2.2.2.2.2.2.2.2.2.2.2.2.2.2.2.2.2.2.2.2.2.2.2.2.2.2.1
theorem dL_law_890 : decode cL_law 890 = .ok (.iload_n 3, 1) := bdL_law_858.2.2.2.2.2.2.2.2.2.2.2.2.2.2.2.2.2.2.2.2.2.2.2.2.2.2.2.2.2.2.1
theorem dL_law_891 : decode cL_law 891 = .ok (.iconst 3, 1) := bdL_law_858.2.2.2.2.2.2.2.2.2.2.2.2.2.2.2.2.2.2.2.2.2.2.2.2.2.2.2.2.2.2.2.1
theorem dL_law_892 : decode cL_law 892 = .ok (.iadd, 1) := bdL_law_858.2.2.2.2.2.2.2.2.2.2.2.2.2.2.2.2.2.2.2.2.2.2.2.2.2.2.2.2.2.2.2.2.1
theorem dL_law_893 : decode cL_law 893 = .ok (.iaload, 1) := bdL_law_858.2.2.2.2.2.2.2.2.2.2.2.2.2.2.2.2.2.2.2.2.2.2.2.2.2.2.2.2.2.2.2.2.2.1
theorem dL_law_894 : decode cL_law 894 = .ok (.invokevirtual 109, 3) := bdL_law_858.2.2.2.2.2.2.2.2.2.2.2.2.2.2.2.2.2.2.2.2.2.2.2.2.2.2.2.2.2.2.2.2.2.2.1
theorem dL_law_897 : decode cL_law 897 = .ok (.pop, 1) := bdL_law_858.2.2.2.2.2.2.2.2.2.2.2.2.2.2.2.2.2.2.2.2.2.2.2.2.2.2.2.2.2.2.2.2.2.2.2.1
theorem dL_law_898 : decode cL_law 898 = .ok (.goto 527, 3) := bdL_law_858.2.2.2.2.2.2.2.2.2.2.2.2.2.2.2.2.2.2.2.2.2.2.2.2.2.2.2.2.2.2.2.2.2.2.2.2.1
theorem dL_law_901 : decode cL_law 901 = .ok (.aload_n 1, 1) := bdL_law_858.2.2.2.2.2.2.2.2.2.2.2.2.2.2.2.2.2.2.2.2.2.2.2.2.2.2.2.2.2.2.2.2.2.2.2.2.2.1
theorem dL_law_902 : decode cL_law 902 = .ok (.aload_n 0, 1) := bdL_law_858.2.2.2.2.2.2.2.2.2.2.2.2.2.2.2.2.2.2.2.2.2.2.2.2.2.2.2.2.2.2.2.2.2.2.2.2.2.2.1
theorem dL_law_903 : decode cL_law 903 = .ok (.iload_n 3, 1) := bdL_law_858.2.2.2.2.2.2.2.2.2.2.2.2.2.2.2.2.2.2.2.2.2.2.2.2.2.2.2.2.2.2.2.2.2.2.2.2.2.2.2
theorem bdL_law_904 : (decode cL_law 904 = .ok (.iconst 1, 1)) ∧ (decode cL_law 905 = .ok (.iadd, 1)) ∧ (decode cL_law 906 = .ok (.iaload, 1)) ∧ (decode cL_law 907 = .ok (.invokevirtual 110, 3)) ∧ (decode cL_law 910 = .ok (.pop, 1)) ∧ (decode cL_law 911 = .ok (.aload_n 2, 1)) ∧ (decode cL_law 912 = .ok (.aload_n 0, 1)) ∧ (decode cL_law 913 = .ok (.iload_n 3, 1)) ∧ (decode cL_law 914 = .ok (.iconst 1, 1)) ∧ (decode cL_law 915 = .ok (.iadd, 1)) ∧ (decode cL_law 916 = .ok (.iaload, 1)) ∧ (decode cL_law 917 = .ok (.invokevirtual 113, 3)) ∧ (decode cL_law 920 = .ok (.pop, 1)) ∧ (decode cL_law 921 = .ok (.goto 504, 3)) ∧ (decode cL_law 924 = .ok (.aload_n 1, 1)) ∧ (decode cL_law 925 = .ok (.invokevirtual 114, 3)) ∧ (decode cL_law 928 = .ok (.pop, 1)) ∧ (decode cL_law 929 = .ok (.aload_n 2, 1)) ∧ (decode cL_law 930 = .ok (.invokevirtual 117, 3)) ∧ (decode cL_law 933 = .ok (.pop, 1)) ∧ (decode cL_law 934 = .ok (.goto 491, 3)) ∧ (decode cL_law 937 = .ok (.aload_n 1, 1)) ∧ (decode cL_law 938 = .ok (.aload_n 0, 1)) ∧ (decode cL_law 939 = .ok (.iload_n 3, 1)) ∧ (decode cL_law 940 = .ok (.iconst 1, 1)) ∧ (decode cL_law 941 = .ok (.iadd, 1)) ∧ (decode cL_law 942 = .ok (.iaload, 1)) ∧ (decode cL_law 943 = .ok (.aload_n 0, 1)) ∧ (decode cL_law 944 = .ok (.iload_n 3, 1)) ∧ (decode cL_law 945 = .ok (.iconst 2, 1)) ∧ (decode cL_law 946 = .ok (.iadd, 1)) ∧ (decode cL_law 947 = .ok (.iaload, 1)) ∧ (decode cL_law 948 = .ok (.invokevirtual 118, 3)) ∧ (decode cL_law 951 = .ok (.pop, 1)) ∧ (decode cL_law 952 = .ok (.aload_n 2, 1)) ∧ (decode cL_law 953 = .ok (.aload_n 0, 1)) ∧ (decode cL_law 954 = .ok (.iload_n 3, 1)) ∧ (decode cL_law 955 = .ok (.iconst 1, 1)) ∧ (decode cL_law 956 = .ok (.iadd, 1)) ∧ (decode cL_law 957 = .ok (.iaload, 1)) := by decide +kernel
theorem dL_law_904 : decode cL_law 904 = .ok (.iconst 1, 1) := bdL_law_904.1
theorem dL_law_905 : decode cL_law 905 = .ok (.iadd, 1) := bdL_law_904.2.1
theorem dL_law_906 : decode cL_law 906 = .ok (.iaload, 1) := bdL_law_904.2.2.1
theorem dL_law_907 : decode cL_law 907 = .ok (.invokevirtual 110, 3) := bdL_law_904.2.2.2.1
theorem dL_law_910 : decode cL_law 910 = .ok (.pop, 1) := bdL_law_904.2.2.2.2.1
theorem dL_law_911 : decode cL_law 911 = .ok (.aload_n 2, 1) := bdL_law_904.2.2.2.2.2.1
theorem dL_law_912 : decode cL_law 912 = .ok (.aload_n 0, 1) := bdL_law_904.2.2.2.2.2.2.1
theorem dL_law_913 : decode cL_law 913 = .ok (.iload_n 3, 1) := bdL_law_904.2.2.2.2.2.2.2.1
theorem dL_law_914 : decode cL_law 914 = .ok (.iconst 1, 1) := bdL_law_904.2.2.2.2.2.2.2.2.1
theorem dL_law_915 : decode cL_law 915 = .ok (.iadd, 1) := bdL_law_904.2.2.2.2.2.2.2.2.2.1
theorem dL_law_916 : decode cL_law 916 = .ok (.iaload, 1) := bdL_law_904.2.2.2.2.2.2.2.2.2.2.1
theorem dL_law_917 : decode cL_law 917 = .ok (.invokevirtual 113, 3) := bdL_law_904.2.2.2.2.2.2.2.2.2.2.2.1
theorem dL_law_920 : decode cL_law 920 = .ok (.pop, 1) := bdL_law_904.2.2.2.2.2.2.2.2.2.2.2.2.1
theorem dL_law_921 : decode cL_law 921 = .ok (.goto 504, 3) := bdL_law_904.2.2.2.2.2.2.2.2.2.2.2.2.2.1
theorem dL_law_924 : decode cL_law 924 = .ok (.aload_n 1, 1) := bdL_law_904.2.2.2.2.2.2.2.2.2.2.2.2.2.2.1
theorem dL_law_925 : decode cL_law 925 = .ok (.invokevirtual 114, 3) := bdL_law_904.2.2.2.2.2.2.2.2.2.2.2.2.2.2.2.1
theorem dL_law_928 : decode cL_law 928 = .ok (.pop, 1) := bdL_law_904.2.2.2.2.2.2.2.2.2.2.2.2.2.2.2.2.1
theorem dL_law_929 : decode cL_law 929 = .ok (.aload_n 2, 1) := bdL_law_904.2.2.2.2.2.2.2.2.2.2.2.2.2.2.2.2.2.1
theorem dL_law_930 : decode cL_law 930 = .ok (.invokevirtual 117, 3) := bdL_law_904.2.2.2.2.2.2.2.2.2.2.2.2.2.2.2.2.2.2.1
theorem dL_law_933 : decode cL_law 933 = .ok (.pop, 1) := bdL_law_904.2.2.2.2.2.2.2.2.2.2.2.2.2.2.2.2.2.2.2.1
theorem dL_law_934 : decode cL_law 934 = .ok (.goto 491, 3) := bdL_law_904.2.2.2.2.2.2.2.2.2.2.2.2.2.2.2.2.2.2.2.2.1
theorem dL_law_937 : decode cL_law 937 = .ok (.aload_n 1, 1) := bdL_law_904.2.2.2.2.2.2.2.2.2.2.2.2.2.2.2.2.2.2.2.2.2.1
theorem dL_law_938 : decode cL_law 938 = .ok (.aload_n 0, 1) := bdL_law_904.2.2.2.2.2.2.2.2.2.2.2.2.2.2.2.2.2.2.2.2.2.2.1
theorem dL_law_939 : decode cL_law 939 = .ok (.iload_n 3, 1) := bdL_law_904.2.2.2.2.2.2.2.2.2.2.2.2.2.2.2.2.2.2.2.2.2.2.2.1
theorem dL_law_940 : decode cL_law 940 = .ok (.iconst 1, 1) := bdL_law_904.2.2.2.2.2.2.2.2.2.2.2.2.2.2.2.2.2.2.2.2.2.2.2.2.1
theorem dL_law_941 : decode cL_law 941 = .ok (.iadd, 1) := bdL_law_904.2.2.2.2.2.2.2.2.2.2.2.2.2.2.2.2.2.2.2.2.2.2.2.2.2.1
theorem dL_law_942 : decode cL_law 942 = .ok (.iaload, 1) := bdL_law_904.2.2.2.2.2.2.2.2.2.2.2.2.2.2.2.2.2.2.2.2.2.2.2.2.2.2.1
theorem dL_law_943 : decode cL_law 943 = .ok (.aload_n 0, 1) := bdL_law_904.2.2.2.2.2.2.2.2.2.2.2.2.2.2.2.2.2.2.2.2.2.2.2.2.2.2.2.1
theorem dL_law_944 : decode cL_law 944 = .ok (.iload_n 3, 1) := bdL_law_904.2.2.2.2.2.2.2.2.2.2.2.2.2.2.2.2.2.2.2.2.2.2.2.2.2.2.2.2.1
theorem dL_law_945 : decode cL_law 945 = .ok (.iconst 2, 1) := bdL_law_904.2.2.2.2.2.2.2.2.2.2.2.2.2.2.2.2.2.2.2.2.2.2.2.2.2.2.2.2.2.1
theorem dL_law_946 : decode cL_law 946 = .ok (.iadd, 1) := bdL_law_904.2.2.2.2.2.2.2.2.2.2.2.2.2.2.2.2.2.2.2.2.2.2.2.2.2.2.2.2.2.2.1
theorem dL_law_947 : decode cL_law 947 = .ok (.iaload, 1) := bdL_law_904.2.2.2.2.2.2.2.2.2.2.2.2.2.2.2.2.2.2.2.2.2.2.2.2.2.2.2.2.2.2.2.1
theorem dL_law_948 : decode cL_law 948 = .ok (.invokevirtual 118, 3) := bdL_law_904.2.2.2.2.2.2.2.2.2.2.2.2.2.2.2.2.2.2.2.2.2.2.2.2.2.2.2.2.2.2.2.2.1
theorem dL_law_951 : decode cL_law 951 = .ok (.pop, 1) := bdL_law_904.2.2.2.2.2.2.2.2.2.2.2.2.2.2.2.2.2.2.2.2.2.2.2.2.2.2.2.2.2.2.2.2.2.1
theorem dL_law_952 : decode cL_law 952 = .ok (.aload_n 2, 1) := bdL_law_904.2.2.2.2.2.2.2.2.2.2.2.2.2.2.2.2.2.2.2.2.2.2.2.2.2.2.2.2.2.2.2.2.2.2.1
theorem dL_law_953 : decode cL_law 953 = .ok (.aload_n 0, 1) := bdL_law_904.2.2.2.2.2.2.2.2.2.2.2.2.2.2.2.2.2.2.2.2.2.2.2.2.2.2.2.2.2.2.2.2.2.2.2.1
theorem dL_law_954 : decode cL_law 954 = .ok (.iload_n 3, 1) := bdL_law_904.2.2.2.2.2.2.2.2.2.2.2.2.2.2.2.2.2.2.2.2.2.2.2.2.2.2.2.2.2.2.2.2.2.2.2.2.1
theorem dL_law_955 : decode cL_law 955 = .ok (.iconst 1, 1) := bdL_law_904.2.2.2.2.2.2.2.2.2.2.2.2.2.2.2.2.2.2.2.2.2.2.2.2.2.2.2.2.2.2.2.2.2.2.2.2.2.1
theorem dL_law_956 : decode cL_law 956 = .ok (.iadd, 1) := bdL_law_904.2.2.2.2.2.2.2.2.2.2.2.2.2.2.2.2.2.2.2.2.2.2.2.2.2.2.2.2.2.2.2.2.2.2.2.2.2.2.1
theorem dL_law_957 : decode cL_law 957 = .ok (.iaload, 1) := bdL_law_904.2.2.2.2.2.2.2.2.2.2.2.2.2.2.2.2.2.2.2.2.2.2.2.2.2.2.2.2.2.2.2.2.2.2.2.2.2.2.2
theorem bdL_law_958 : (decode cL_law 958 = .ok (.aload_n 0, 1)) ∧ (decode cL_law 959 = .ok (.iload_n 3, 1)) ∧ (decode cL_law 960 = .ok (.iconst 2, 1)) ∧ (decode cL_law 961 = .ok (.iadd, 1)) ∧ (decode cL_law 962 = .ok (.iaload, 1)) ∧ (decode cL_law 963 = .ok (.invokevirtual 121, 3)) ∧ (decode cL_law 966 = .ok (.pop, 1)) ∧ (decode cL_law 967 = .ok (.goto 458, 3)) ∧ (decode cL_law 970 = .ok (.aload_n 1, 1)) ∧ (decode cL_law 971 = .ok (.aload_n 0, 1)) ∧ (decode cL_law 972 = .ok (.iload_n 3, 1)) ∧ (decode cL_law 973 = .ok (.iconst 1, 1)) ∧ (decode cL_law 974 = .ok (.iadd, 1)) ∧ (decode cL_law 975 = .ok (.iaload, 1)) ∧ (decode cL_law 976 = .ok (.invokevirtual 122, 3)) ∧ (decode cL_law 979 = .ok (.pop, 1)) ∧ (decode cL_law 980 = .ok (.aload_n 2, 1)) ∧ (decode cL_law 981 = .ok (.aload_n 0, 1)) ∧ (decode cL_law 982 = .ok (.iload_n 3, 1)) ∧ (decode cL_law 983 = .ok (.iconst 1, 1)) ∧ (decode cL_law 984 = .ok (.iadd, 1)) ∧ (decode cL_law 985 = .ok (.iaload, 1)) ∧ (decode cL_law 986 = .ok (.invokevirtual 125, 3)) ∧ (decode cL_law 989 = .ok (.pop, 1)) ∧ (decode cL_law 990 = .ok (.goto 435, 3)) ∧ (decode cL_law 993 = .ok (.aload_n 1, 1)) ∧ (decode cL_law 994 = .ok (.aload_n 0, 1)) ∧ (decode cL_law 995 = .ok (.iload_n 3, 1)) ∧ (decode cL_law 996 = .ok (.iconst 1, 1)) ∧ (decode cL_law 997 = .ok (.iadd, 1)) ∧ (decode cL_law 998 = .ok (.iaload, 1)) ∧ (decode cL_law 999 = .ok (.aload_n 0, 1)) ∧ (decode cL_law 1000 = .ok (.iload_n 3, 1)) ∧ (decode cL_law 1001 = .ok (.iconst 2, 1)) ∧ (decode cL_law 1002 = .ok (.iadd, 1)) ∧ (decode cL_law 1003 = .ok (.iaload, 1)) ∧ (decode cL_law 1004 = .ok (.aload_n 0, 1)) ∧ (decode cL_law 1005 = .ok (.iload_n 3, 1)) ∧ (decode cL_law 1006 = .ok (.iconst 3, 1)) ∧ (decode cL_law 1007 = .ok (.iadd, 1)) := by decide +kernel
theorem dL_law_958 : decode cL_law 958 = .ok (.aload_n 0, 1) := bdL_law_958.1
theorem dL_law_959 : decode cL_law 959 = .ok (.iload_n 3, 1) := bdL_law_958.2.1
theorem dL_law_960 : decode cL_law 960 = .ok (.iconst 2, 1) := bdL_law_958.2.2.1
theorem dL_law_961 : decode cL_law 961 = .ok (.iadd, 1) := bdL_law_958.2.2.2.1
theorem dL_law_962 : decode cL_law 962 = .ok (.iaload, 1) := bdL_law_958.2.2.2.2.1
theorem dL_law_963 : decode cL_law 963 = .ok (.invokevirtual 121, 3) := bdL_law_958.2.2.2.2.2.1
theorem dL_law_966 : decode cL_law 966 = .ok (.pop, 1) := bdL_law_958.2.2.2.2.2.2.1
theorem dL_law_967 : decode cL_law 967 = .ok (.goto 458, 3) := bdL_law_958.2.2.2.2.2.2.2.1
theorem dL_law_970 : decode cL_law 970 = .ok (.aload_n 1, 1) := bdL_law_958.2.2.2.2.2.2.2.2.1
theorem dL_law_971 : decode cL_law 971 = .ok (.aload_n 0, 1) := bdL_law_958.2.2.2.2.2.2.2.2.2.1
theorem dL_law_972 : decode cL_law 972 = .ok (.iload_n 3, 1) := bdL_law_958.2.2.2.2.2.2.2.2.2.2.1
theorem dL_law_973 : decode cL_law 973 = .ok (.iconst 1, 1) := bdL_law_958.2.2.2.2.2.2.2.2.2.2.2.1
theorem dL_law_974 : decode cL_law 974 = .ok (.iadd, 1) := bdL_law_958.2.2.2.2.2.2.2.2.2.2.2.2.1
theorem dL_law_975 : decode cL_law 975 = .ok (.iaload, 1) := bdL_law_958.2.2.2.2.2.2.2.2.2.2.2.2.2.1
theorem dL_law_976 : decode cL_law 976 = .ok (.invokevirtual 122, 3) := bdL_law_958.2.2.2.2.2.2.2.2.2.2.2.2.2.2.1
theorem dL_law_979 : decode cL_law 979 = .ok (.pop, 1) := bdL_law_958.2.2.2.2.2.2.2.2.2.2.2.2.2.2.2.1
theorem dL_law_980 : decode cL_law 980 = .ok (.aload_n 2, 1) := bdL_law_958.2.2.2.2.2.2.2.2.2.2.2.2.2.2.2.2.1
theorem dL_law_981 : decode cL_law 981 = .ok (.aload_n 0, 1) := bdL_law_958.2.2.2.2.2.2.2.2.2.2.2.2.2.2.2.2.2.1
theorem dL_law_982 : decode cL_law 982 = .ok (.iload_n 3, 1) := bdL_law_958.2.2.2.2.2.2.2.2.2.2.2.2.2.2.2.2.2.2.1
theorem dL_law_983 : decode cL_law 983 = .ok (.iconst 1, 1) := bdL_law_958.2.2.2.2.2.2.2.2.2.2.2.2.2.2.2.2.2.2.2.1
theorem dL_law_984 : decode cL_law 984 = .ok (.iadd, 1) := bdL_law_958.2.2.2.2.2.2.2.2.2.2.2.2.2.2.2.2.2.2.2.2.1
theorem dL_law_985 : decode cL_law 985 = .ok (.iaload, 1) := bdL_law_958.2.2.2.2.2.2.2.2.2.2.2.2.2.2.2.2.2.2.2.2.2.1
theorem dL_law_986 : decode cL_law 986 = .ok (.invokevirtual 125, 3) := bdL_law_958.2.2.2.2.2.2.2.2.2.2.2.2.2.2.2.2.2.2.2.2.2.2.1
theorem dL_law_989 : decode cL_law 989 = .ok (.pop, 1) := bdL_law_958.2.2.2.2.2.2.2.2.2.2.2.2.2.2.2.2.2.2.2.2.2.2.2.1
theorem dL_law_990 : decode cL_law 990 = .ok (.goto 435, 3) := bdL_law_958.2.2.2.2.2.2.2.2.2.2.2.2.2.2.2.2.2.2.2.2.2.2.2.2.1
theorem dL_law_993 : decode cL_law 993 = .ok (.aload_n 1, 1) := bdL_law_958.2.2.2.2.2.2.2.2.2.2.2.2.2.2.2.2.2.2.2.2.2.2.2.2.2.1
theorem dL_law_994 : decode cL_law 994 = .ok (.aload_n 0, 1) := bdL_law_958.2.2.2.2.2.2.2.2.2.2.2.2.2.2.2.2.2.2.2.2.2.2.2.2.2.2.1
theorem dL_law_995 : decode cL_law 995 = .ok (.iload_n 3, 1) := bdL_law_958.2.2.2.2.2.2.2.2.2.2.2.2.2.2.2.2.2.2.2.2.2.2.2.2.2.2.2.1
theorem dL_law_996 : decode cL_law 996 = .ok (.iconst 1, 1) := bdL_law_958.2.2.2.2.2.2.2.2.2.2.2.2.2.2.2.2.2.2.2.2.2.2.2.2.2.2.2.2.1
theorem dL_law_997 : decode cL_law 997 = .ok (.iadd, 1) := bdL_law_958.2.2.2.2.2.2.2.2.2.2.2.2.2.2.2.2.2.2.2.2.2.2.2.2.2.2.2.2.2.1
theorem dL_law_998 : decode cL_law 998 = .ok (.iaload, 1) := bdL_law_958.2.2.2.2.2.2.2.2.2.2.2.2.2.2.2.2.2.2.2.2.2.2.2.2.2.2.2.2.2.2.1
theorem dL_law_999 : decode cL_law 999 = .ok (.aload_n 0, 1) := bdL_law_958.2.2.2.2.2.2.2.2.2.2.2.2.2.2.2.2.2.2.2.2.2.2.2.2.2.2.2.2.2.2.2.1
theorem dL_law_1000 : decode cL_law 1000 = .ok (.iload_n 3, 1) := bdL_law_958.2.2.2.2.2.2.2.2.2.2.2.2.2.2.2.2.2.2.2.2.2.2.2.2.2.2.2.2.2.2.2.2.1
theorem dL_law_1001 : decode cL_law 1001 = .ok (.iconst 2, 1) := bdL_law_958.2.2.2.2.2.2.2.2.2.2.2.2.2.2.2.2.2.2.2.2.2.2.2.2.2.2.2.2.2.2.2.2.2.1
theorem dL_law_1002 : decode cL_law 1002 = .ok (.iadd, 1) := bdL_law_958.2.2.2.2.2.2.2.2.2.2.2.2.2.2.2.2.2.2.2.2.2.2.2.2.2.2.2.2.2.2.2.2.2.2.1
theorem dL_law_1003 : decode cL_law 1003 = .ok (.iaload, 1) := bdL_law_958.2.2.2.2.2.2.2.2.2.2.2.2.2.2.2.2.2.2.2.2.2.2.2.2.2.2.2.2.2.2.2.2.2.2.2.1
theorem dL_law_1004 : decode cL_law 1004 = .ok (.aload_n 0, 1) := bdL_law_958.2.2.2.2.2.2.2.2.2.2.2.2.2.2.2.2.2.2.2.2.2.2.2.2.2.2.2.2.2.2.2.2.2.2.2.2.1
theorem dL_law_1005 : decode cL_law 1005 = .ok (.iload_n 3, 1) := bdL_law_958.2.2.2.2.2.2.2.2.2.2.2.2.2.2.2.2.2.2.2.2.2.2.2.2.2.2.2.2.2.2.2.2.2.2.2.2.2.1
theorem dL_law_1006 : decode cL_law 1006 = .ok (.iconst 3, 1) := bdL_law_958.2.2.2.2.2.2.2.2.2.2.2.2.2.2.2.2.2.2.2.2.2.2.2.2.2.2.2.2.2.2.2.2.2.2.2.2.2.2.1
theorem dL_law_1007 : decode cL_law 1007 = .ok (.iadd, 1) := bdL_law_958.2.2.2.2.2.2.2.2.2.2.2.2.2.2.2.2.2.2.2.2.2.2.2.2.2.2.2.2.2.2.2.2.2.2.2.2.2.2.2
theorem bdL_law_1008 : (decode cL_law 1008 = .ok (.iaload, 1)) ∧ (decode cL_law 1009 = .ok (.invokevirtual 126, 3)) ∧ (decode cL_law 1012 = .ok (.pop, 1)) ∧ (decode cL_law 1013 = .ok (.aload_n 2, 1)) ∧ (decode cL_law 1014 = .ok (.aload_n 0, 1)) ∧ (decode cL_law 1015 = .ok (.iload_n 3, 1)) ∧ (decode cL_law 1016 = .ok (.iconst 1, 1)) ∧ (decode cL_law 1017 = .ok (.iadd, 1)) ∧ (decode cL_law 1018 = .ok (.iaload, 1)) ∧ (decode cL_law 1019 = .ok (.aload_n 0, 1)) ∧ (decode cL_law 1020 = .ok (.iload_n 3, 1)) ∧ (decode cL_law 1021 = .ok (.iconst 2, 1)) ∧ (decode cL_law 1022 = .ok (.iadd, 1)) ∧ (decode cL_law 1023 = .ok (.iaload, 1)) ∧ (decode cL_law 1024 = .ok (.aload_n 0, 1)) ∧ (decode cL_law 1025 = .ok (.iload_n 3, 1)) ∧ (decode cL_law 1026 = .ok (.iconst 3, 1)) ∧ (decode cL_law 1027 = .ok (.iadd, 1)) ∧ (decode cL_law 1028 = .ok (.iaload, 1)) ∧ (decode cL_law 1029 = .ok (.invokevirtual 129, 3)) ∧ (decode cL_law 1032 = .ok (.pop, 1)) ∧ (decode cL_law 1033 = .ok (.goto 392, 3)) ∧ (decode cL_law 1036 = .ok (.aload_n 1, 1)) ∧ (decode cL_law 1037 = .ok (.aload_n 0, 1)) ∧ (decode cL_law 1038 = .ok (.iload_n 3, 1)) ∧ (decode cL_law 1039 = .ok (.iconst 1, 1)) ∧ (decode cL_law 1040 = .ok (.iadd, 1)) ∧ (decode cL_law 1041 = .ok (.iaload, 1)) ∧ (decode cL_law 1042 = .ok (.aload_n 0, 1)) ∧ (decode cL_law 1043 = .ok (.iload_n 3, 1)) ∧ (decode cL_law 1044 = .ok (.iconst 2, 1)) ∧ (decode cL_law 1045 = .ok (.iadd, 1)) ∧ (decode cL_law 1046 = .ok (.iaload, 1)) ∧ (decode cL_law 1047 = .ok (.aload_n 0, 1)) ∧ (decode cL_law 1048 = .ok (.iload_n 3, 1)) ∧ (decode cL_law 1049 = .ok (.iconst 3, 1)) ∧ (decode cL_law 1050 = .ok (.iadd, 1)) ∧ (decode cL_law 1051 = .ok (.iaload, 1)) ∧ (decode cL_law 1052 = .ok (.invokevirtual 130, 3)) ∧ (decode cL_law 1055 = .ok (.pop, 1)) := by decide +kernel
theorem dL_law_1008 : decode cL_law 1008 = .ok (.iaload, 1) := bdL_law_1008.1
theorem dL_law_1009 : decode cL_law 1009 = .ok (.invokevirtual 126, 3) := bdL_law_1008.2.1
theorem dL_law_1012 : decode cL_law 1012 = .ok (.pop, 1) := bdL_law_1008.2.2.1
theorem dL_law_1013 : decode cL_law 1013 = .ok (.aload_n 2, 1) := bdL_law_1008.2.2.2.1
theorem dL_law_1014 : decode cL_law 1014 = .ok (.aload_n 0, 1) := bdL_law_1008.2.2.2.2.1
theorem dL_law_1015 : decode cL_law 1015 = .ok (.iload_n 3, 1) := bdL_law_1008.2.2.2.2.2.1
theorem dL_law_1016 : decode cL_law 1016 = .ok (.iconst 1, 1) := bdL_law_1008.2.2.2.2.2.2.1
theorem dL_law_1017 : decode cL_law 1017 = .ok (.iadd, 1) := bdL_law_1008.2.2.2.2.2.2.2.1
theorem dL_law_1018 : decode cL_law 1018 = .ok (.iaload, 1) := bdL_law_1008.2.2.2.2.2.2.2.2.1
theorem dL_law_1019 : decode cL_law 1019 = .ok (.aload_n 0, 1) := bdL_law_1008.2.2.2.2.2.2.2.2.2.1
theorem dL_law_1020 : decode cL_law 1020 = .ok (.iload_n 3, 1) := bdL_law_1008.2.2.2.2.2.2.2.2.2.2.1
theorem dL_law_1021 : decode cL_law 1021 = .ok (.iconst 2, 1) := bdL_law_1008.2.2.2.2.2.2.2.2.2.2.2.1
theorem dL_law_1022 : decode cL_law 1022 = .ok (.iadd, 1) := bdL_law_1008.2.2.2.2.2.2.2.2.2.2.2.2.1
theorem dL_law_1023 : decode cL_law 1023 = .ok (.iaload, 1) := bdL_law_1008.2.2.2.2.2.2.2.2.2.2.2.2.2.1
theorem dL_law_1024 : decode cL_law 1024 = .ok (.aload_n 0, 1) := bdL_law_1008.2.2.2.2.2.2.2.2.2.2.2.2.2.2.1
theorem dL_law_1025 : decode cL_law 1025 = .ok (.iload_n 3, 1) := bdL_law_1008.2.2.2.2.2.2.2.2.2.2.2.2.2.2.2.1
theorem dL_law_1026 : decode cL_law 1026 = .ok (.iconst 3, 1) := bdL_law_1008.2.2.2.2.2.2.2.2.2.2.2.2.2.2.2.2.1
theorem dL_law_1027 : decode cL_law 1027 = .ok (.iadd, 1) := bdL_law_1008.2.2.2.2.2.2.2.2.2.2.2.2.2.2.2.2.2.1
theorem dL_law_1028 : decode cL_law 1028 = .ok (.iaload, 1) := bdL_law_1008.2.2.2.2.2.2.2.2.2.2.2.2.2.2.2.2.2.2.1
theorem dL_law_1029 : decode cL_law 1029 = .ok (.invokevirtual 129, 3) := bdL_law_1008.2.2.2.2.2.2.2.2.2.2.2.2.2.2.2.2.2.2.2.1
theorem dL_law_1032 : decode cL_law 1032 = .ok (.pop, 1) := bdL_law_1008.2.2.2.2.2.2.2.2.2.2.2.2.2.2.2.2.2.2.2.2.1
theorem dL_law_1033 : decode cL_law 1033 = .ok (.goto 392, 3) := bdL_law_1008.2.2.2.2.2.2.2.2.2.2.2.2.2.2.2.2.2.2.2.2.2.1
theorem dL_law_1036 : decode cL_law 1036 = .ok (.aload_n 1, 1) := bdL_law_1008.2.2.2.2.2.2.2.2.2.2.2.2.2.2.2.2.2.2.2.2.2.2.1
theorem dL_law_1037 : decode cL_law 1037 = .ok (.aload_n 0, 1) := bdL_law_1008.2.2.2.2.2.2.2.2.2.2.2.2.2.2.2.2.2.2.2.2.2.2.2.1
theorem dL_law_1038 : decode cL_law 1038 = .ok (.iload_n 3, 1) := bdL_law_1008.2.2.2.2.2.2.2.2.2.2.2.2.2.2.2.2.2.2.2.2.2.2.2.2.1
theorem dL_law_1039 : decode cL_law 1039 = .ok (.iconst 1, 1) := bdL_law_1008.2.2.2.2.2.2.2.2.2.2.2.2.2.2.2.2.2.2.2.2.2.2.2.2.2.1
theorem dL_law_1040 : decode cL_law 1040 = .ok (.iadd, 1) := bdL_law_1008.2.2.2.2.2.2.2.2.2.2.2.2.2.2.2.2.2.2.2.2.2.2.2.2.2.2.1
theorem dL_law_1041 : decode cL_law 1041 = .ok (.iaload, 1) := bdL_law_1008.2.2.2.2.2.2.2.2.2.2.2.2.2.2.2.2.2.2.2.2.2.2.2.2.2.2.2.1
theorem dL_law_1042 : decode cL_law 1042 = .ok (.aload_n 0, 1) := bdL_law_1008.2.2.2.2.2.2.2.2.2.2.2.2.2.2.2.2.2.2.2.2.2.2.2.2.2.2.2.2.1
theorem dL_law_1043 : decode cL_law 1043 = .ok (.iload_n 3, 1) := bdL_law_1008.2.2.2.2.2.2.2.2.2.2.2.2.2.2.2.2.2.2.2.2.2.2.2.2.2.2.2.2.2.1
theorem dL_law_1044 : decode cL_law 1044 = .ok (.iconst 2, 1) := bdL_law_1008.2.2.2.2.2.2.2.2.2.2.2.2.2.2.2.2.2.2.2.2.2.2.2.2.2.2.2.2.2.2.1
theorem dL_law_1045 : decode cL_law 1045 = .ok (.iadd, 1) := bdL_law_1008.2.2.2.2.2.2.2.2.2.2.2.2.2.2.2.2.2.2.2.2.2.2.2.2.2.2.2.2.2.2.2.1
theorem dL_law_1046 : decode cL_law 1046 = .ok (.iaload, 1) := bdL_law_1008.2.2.2.2.2.2.2.2.2.2.2.2.2.2.2.2.2.2.2.2.2.2.2.2.2.2.2.2.2.2.2.2.1
theorem dL_law_1047 : decode cL_law 1047 = .ok (.aload_n 0, 1) := bdL_law_1008.2.2.2.2.2.2.2.2.2.2.2.2.2.2.2.2.2.2.2.2.2.2.2.2.2.2.2.2.2.2.2.2.2.1
theorem dL_law_1048 : decode cL_law 1048 = .ok (.iload_n 3, 1) := bdL_law_1008.2.2.2.2.2.2.2.2.2.2.2.2.2.2.2.2.2.2.2.2.2.2.2.2.2.2.2.2.2.2.2.2.2.2.1
theorem dL_law_1049 : decode cL_law 1049 = .ok (.iconst 3, 1) := bdL_law_1008.2.2.2.2.2.2.2.2.2.2.2.2.2.2.2.2.2.2.2.2.2.2.2.2.2.2.2.2.2.2.2.2.2.2.2.1
theorem dL_law_1050 : decode cL_law 1050 = .ok (.iadd, 1) := bdL_law_1008.2.2.2.2.2.2.2.2.2.2.2.2.2.2.2.2.2.2.2.2.2.2.2.2.2.2.2.2.2.2.2.2.2.2.2.2.1
theorem dL_law_1051 : decode cL_law 1051 = .ok (.iaload, 1) := bdL_law_1008.2.2.2.2.2.2.2.2.2.2.2.2.2.2.2.2.2.2.2.2.2.2.2.2.2.2.2.2.2.2.2.2.2.2.2.2.2.1
theorem dL_law_1052 : decode cL_law 1052 = .ok (.invokevirtual 130, 3) := bdL_law_1008.2.2.2.2.2.2.2.2.2.2.2.2.2.2.2.2.2.2.2.2.2.2.2.2.2.2.2.2.2.2.2.2.2.2.2.2.2.2.1
theorem dL_law_1055 : decode cL_law 1055 = .ok (.pop, 1) := bdL_law_1008.2.2.2.2.2.2.2.2.2.2.2.2.2.2.2.2.2.2.2.2.2.2.2.2.2.2.2.2.2.2.2.2.2.2.2.2.2.2.2
theorem bdL_law_1056 : (decode cL_law 1056 = .ok (.aload_n 2, 1)) ∧ (decode cL_law 1057 = .ok (.aload_n 0, 1)) ∧ (decode cL_law 1058 = .ok (.iload_n 3, 1)) ∧ (decode cL_law 1059 = .ok (.iconst 1, 1)) ∧ (decode cL_law 1060 = .ok (.iadd, 1)) ∧ (decode cL_law 1061 = .ok (.iaload, 1)) ∧ (decode cL_law 1062 = .ok (.aload_n 0, 1)) ∧ (decode cL_law 1063 = .ok (.iload_n 3, 1)) ∧ (decode cL_law 1064 = .ok (.iconst 2, 1)) ∧ (decode cL_law 1065 = .ok (.iadd, 1)) ∧ (decode cL_law 1066 = .ok (.iaload, 1)) ∧ (decode cL_law 1067 = .ok (.aload_n 0, 1)) ∧ (decode cL_law 1068 = .ok (.iload_n 3, 1)) ∧ (decode cL_law 1069 = .ok (.iconst 3, 1)) ∧ (decode cL_law 1070 = .ok (.iadd, 1)) ∧ (decode cL_law 1071 = .ok (.iaload, 1)) ∧ (decode cL_law 1072 = .ok (.invokevirtual 133, 3)) ∧ (decode cL_law 1075 = .ok (.pop, 1)) ∧ (decode cL_law 1076 = .ok (.goto 349, 3)) ∧ (decode cL_law 1079 = .ok (.aload_n 1, 1)) ∧ (decode cL_law 1080 = .ok (.aload_n 0, 1)) ∧ (decode cL_law 1081 = .ok (.iload_n 3, 1)) ∧ (decode cL_law 1082 = .ok (.iconst 1, 1)) ∧ (decode cL_law 1083 = .ok (.iadd, 1)) ∧ (decode cL_law 1084 = .ok (.iaload, 1)) ∧ (decode cL_law 1085 = .ok (.invokevirtual 134, 3)) ∧ (decode cL_law 1088 = .ok (.pop, 1)) ∧ (decode cL_law 1089 = .ok (.aload_n 2, 1)) ∧ (decode cL_law 1090 = .ok (.aload_n 0, 1)) ∧ (decode cL_law 1091 = .ok (.iload_n 3, 1)) ∧ (decode cL_law 1092 = .ok (.iconst 1, 1)) ∧ (decode cL_law 1093 = .ok (.iadd, 1)) ∧ (decode cL_law 1094 = .ok (.iaload, 1)) ∧ (decode cL_law 1095 = .ok (.invokevirtual 137, 3)) ∧ (decode cL_law 1098 = .ok (.pop, 1)) ∧ (decode cL_law 1099 = .ok (.goto 326, 3)) ∧ (decode cL_law 1102 = .ok (.aload_n 1, 1)) ∧ (decode cL_law 1103 = .ok (.aload_n 0, 1)) ∧ (decode cL_law 1104 = .ok (.iload_n 3, 1)) ∧ (decode cL_law 1105 = .ok (.iconst 1, 1)) := by decide +kernel
theorem dL_law_1056 : decode cL_law 1056 = .ok (.aload_n 2, 1) := bdL_law_1056.1
theorem dL_law_1057 : decode cL_law 1057 = .ok (.aload_n 0, 1) := bdL_law_1056.2.1
theorem dL_law_1058 : decode cL_law 1058 = .ok (.iload_n 3, 1) := bdL_law_1056.2.2.1
theorem dL_law_1059 : decode cL_law 1059 = .ok (.iconst 1, 1) := bdL_law_1056.2.2.2.1
theorem dL_law_1060 : decode cL_law 1060 = .ok (.iadd, 1) := bdL_law_1056.2.2.2.2.1
theorem dL_law_1061 : decode cL_law 1061 = .ok (.iaload, 1) := bdL_law_1056.2.2.2.2.2.1
theorem dL_law_1062 : decode cL_law 1062 = .ok (.aload_n 0, 1) := bdL_law_1056.2.2.2.2.2.2.1
theorem dL_law_1063 : decode cL_law 1063 = .ok (.iload_n 3, 1) := bdL_law_1056.2.2.2.2.2.2.2.1
theorem dL_law_1064 : decode cL_law 1064 = .ok (.iconst 2, 1) := bdL_law_1056.2.2.2.2.2.2.2.2.1
theorem dL_law_1065 : decode cL_law 1065 = .ok (.iadd, 1) := bdL_law_1056.2.2.2.2.2.2.2.2.2.1
theorem dL_law_1066 : decode cL_law 1066 = .ok (.iaload, 1) := bdL_law_1056.2.2.2.2.2.2.2.2.2.2.1
theorem dL_law_1067 : decode cL_law 1067 = .ok (.aload_n 0, 1) := bdL_law_1056.2.2.2.2.2.2.2.2.2.2.2.1
theorem dL_law_1068 : decode cL_law 1068 = .ok (.iload_n 3, 1) := bdL_law_1056.2.2.2.2.2.2.2.2.2.2.2.2.1
theorem dL_law_1069 : decode cL_law 1069 = .ok (.iconst 3, 1) := bdL_law_1056.2.2.2.2.2.2.2.2.2.2.2.2.2.1
theorem dL_law_1070 : decode cL_law 1070 = .ok (.iadd, 1) := bdL_law_1056.2.2.2.2.2.2.2.2.2.2.2.2.2.2.1
theorem dL_law_1071 : decode cL_law 1071 = .ok (.iaload, 1) := bdL_law_1056.2.2.2.2.2.2.2.2.2.2.2.2.2.2.2.1
theorem dL_law_1072 : decode cL_law 1072 = .ok (.invokevirtual 133, 3) := bdL_law_1056.2.2.2.2.2.2.2.2.2.2.2.2.2.2.2.2.1
theorem dL_law_1075 : decode cL_law 1075 = .ok (.pop, 1) := bdL_law_1056.2.2.2.2.2.2.2.2.2.2.2.2.2.2.2.2.2.1
theorem dL_law_1076 : decode cL_law 1076 = .ok (.goto 349, 3) := bdL_law_1056.2.2.2.2.2.2.2.2.2.2.2.2.2.2.2.2.2.2.1
theorem dL_law_1079 : decode cL_law 1079 = .ok (.aload_n 1, 1) := bdL_law_1056.2.2.2.2.2.2.2.2.2.2.2.2.2.2.2.2.2.2.2.1
theorem dL_law_1080 : decode cL_law 1080 = .ok (.aload_n 0, 1) := bdL_law_1056.2.2.2.2.2.2.2.2.2.2.2.2.2.2.2.2.2.2.2.2.1
theorem dL_law_1081 : decode cL_law 1081 = .ok (.iload_n 3, 1) := bdL_law_1056.2.2.2.2.2.2.2.2.2.2.2.2.2.2.2.2.2.2.2.2.2.1
theorem dL_law_1082 : decode cL_law 1082 = .ok (.iconst 1, 1) := bdL_law_1056.2.2.2.2.2.2.2.2.2.2.2.2.2.2.2.2.2.2.2.2.2.2.1
theorem dL_law_1083 : decode cL_law 1083 = .ok (.iadd, 1) := bdL_law_1056.2.2.2.2.2.2.2.2.2.2.2.2.2.2.2.2.2.2.2.2.2.2.2.1
theorem dL_law_1084 : decode cL_law 1084 = .ok (.iaload, 1) := bdL_law_1056.2.2.2.2.2.2.2.2.2.2.2.2.2.2.2.2.2.2.2.2.2.2.2.2.1
theorem dL_law_1085 : decode cL_law 1085 = .ok (.invokevirtual 134, 3) := bdL_law_1056.2.2.2.2.2.2.2.2.2.2.2.2.2.2.2.2.2.2.2.2.2.2.2.2.2.1
theorem dL_law_1088 : decode cL_law 1088 = .ok (.pop, 1) := bdL_law_1056.2.2.2.2.2.2.2.2.2.2.2.2.2.2.2.2.2.2.2.2.2.2.2.2.2.2.1
theorem dL_law_1089 : decode cL_law 1089 = .ok (.aload_n 2, 1) := bdL_law_1056.2.2.2.2.2.2.2.2.2.2.2.2.2.2.2.2.2.2.2.2.2.2.2.2.2.2.2.1
theorem dL_law_1090 : decode cL_law 1090 = .ok (.aload_n 0, 1) := bdL_law_1056.2.2.2.2.2.2.2.2.2.2.2.2.2.2.2.2.2.2.2.2.2.2.2.2.2.2.2.2.1
theorem dL_law_1091 : decode cL_law 1091 = .ok (.iload_n 3, 1) := bdL_law_1056.2.2.2.2.2.2.2.2.2.2.2.2.2.2.2.2.2.2.2.2.2.2.2.2.2.2.2.2.2.1
theorem dL_law_1092 : decode cL_law 1092 = .ok (.iconst 1, 1) := bdL_law_1056.2.2.2.2.2.2.2.2.2.2.2.2.2.2.2.2.2.2.2.2.2.2.2.2.2.2.2.2.2.2.1
theorem dL_law_1093 : decode cL_law 1093 = .ok (.iadd, 1) := bdL_law_1056.2.2.2.2.2.2.2.2.2.2.2.2.2.2.2.2.2.2.2.2.2.2.2.2.2.2.2.2.2.2.2.1
theorem dL_law_1094 : decode cL_law 1094 = .ok (.iaload, 1) := bdL_law_1056.2.2.2.2.2.2.2.2.2.2.2.2.2.2.2.2.2.2.2.2.2.2.2.2.2.2.2.2.2.2.2.2.1
theorem dL_law_1095 : decode cL_law 1095 = .ok (.invokevirtual 137, 3) := bdL_law_1056.2.2.2.2.2.2.2.2.2.2.2.2.2.2.2.2.2.2.2.2.2.2.2.2.2.2.2.2.2.2.2.2.2.1
theorem dL_law_1098 : decode cL_law 1098 = .ok (.pop, 1) := bdL_law_1056.2.2.2.2.2.2.2.2.2.2.2.2.2.2.2.2.2.2.2.2.2.2.2.2.2.2.2.2.2.2.2.2.2.2.1
theorem dL_law_1099 : decode cL_law 1099 = .ok (.goto 326, 3) := bdL_law_1056.2.2.2.2.2.2.2.2.2.2.2.2.2.2.2.2.2.2.2.2.2.2.2.2.2.2.2.2.2.2.2.2.2.2.2.1
theorem dL_law_1102 : decode cL_law 1102 = .ok (.aload_n 1, 1) := bdL_law_1056.2.2.2.2.2.2.2.2.2.2.2.2.2.2.2.2.2.2.2.2.2.2.2.2.2.2.2.2.2.2.2.2.2.2.2.2.1
theorem dL_law_1103 : decode cL_law 1103 = .ok (.aload_n 0, 1) := bdL_law_1056.2.2.2.2.2.2.2.2.2.2.2.2.2.2.2.2.2.2.2.2.2.2.2.2.2.2.2.2.2.2.2.2.2.2.2.2.2.1
theorem dL_law_1104 : decode cL_law 1104 = .ok (.iload_n 3, 1) := bdL_law_1056.2.2.2.2.2.2.2.2.2.2.2.2.2.2.2.2.2.2.2.2.2.2.2.2.2.2.2.2.2.2.2.2.2.2.2.2.2.2.1
theorem dL_law_1105 : decode cL_law 1105 = .ok (.iconst 1, 1) := bdL_law_1056.2.2.2.2.2.2.2.2.2.2.2.2.2.2.2.2.2.2.2.2.2.2.2.2.2.2.2.2.2.2.2.2.2.2.2.2.2.2.2
theorem bdL_law_1106 : (decode cL_law 1106 = .ok (.iadd, 1)) ∧ (decode cL_law 1107 = .ok (.iaload, 1)) ∧ (decode cL_law 1108 = .ok (.invokevirtual 138, 3)) ∧ (decode cL_law 1111 = .ok (.pop, 1)) ∧ (decode cL_law 1112 = .ok (.aload_n 2, 1)) ∧ (decode cL_law 1113 = .ok (.aload_n 0, 1)) ∧ (decode cL_law 1114 = .ok (.iload_n 3, 1)) ∧ (decode cL_law 1115 = .ok (.iconst 1, 1)) ∧ (decode cL_law 1116 = .ok (.iadd, 1)) ∧ (decode cL_law 1117 = .ok (.iaload, 1)) ∧ (decode cL_law 1118 = .ok (.invokevirtual 141, 3)) ∧ (decode cL_law 1121 = .ok (.pop, 1)) ∧ (decode cL_law 1122 = .ok (.goto 303, 3)) ∧ (decode cL_law 1125 = .ok (.aload_n 1, 1)) ∧ (decode cL_law 1126 = .ok (.aload_n 0, 1)) ∧ (decode cL_law 1127 = .ok (.iload_n 3, 1)) ∧ (decode cL_law 1128 = .ok (.iconst 1, 1)) ∧ (decode cL_law 1129 = .ok (.iadd, 1)) ∧ (decode cL_law 1130 = .ok (.iaload, 1)) ∧ (decode cL_law 1131 = .ok (.aload_n 0, 1)) ∧ (decode cL_law 1132 = .ok (.iload_n 3, 1)) ∧ (decode cL_law 1133 = .ok (.iconst 2, 1)) ∧ (decode cL_law 1134 = .ok (.iadd, 1)) ∧ (decode cL_law 1135 = .ok (.iaload, 1)) ∧ (decode cL_law 1136 = .ok (.aload_n 0, 1)) ∧ (decode cL_law 1137 = .ok (.iload_n 3, 1)) ∧ (decode cL_law 1138 = .ok (.iconst 3, 1)) ∧ (decode cL_law 1139 = .ok (.iadd, 1)) ∧ (decode cL_law 1140 = .ok (.iaload, 1)) ∧ (decode cL_law 1141 = .ok (.aload_n 0, 1)) ∧ (decode cL_law 1142 = .ok (.iload_n 3, 1)) ∧ (decode cL_law 1143 = .ok (.iconst 4, 1)) ∧ (decode cL_law 1144 = .ok (.iadd, 1)) ∧ (decode cL_law 1145 = .ok (.iaload, 1)) ∧ (decode cL_law 1146 = .ok (.aload_n 0, 1)) ∧ (decode cL_law 1147 = .ok (.iload_n 3, 1)) ∧ (decode cL_law 1148 = .ok (.iconst 5, 1)) ∧ (decode cL_law 1149 = .ok (.iadd, 1)) ∧ (decode cL_law 1150 = .ok (.iaload, 1)) ∧ (decode cL_law 1151 = .ok (.invokevirtual 142, 3)) := by decide +kernel
theorem dL_law_1106 : decode cL_law 1106 = .ok (.iadd, 1) := bdL_law_1106.1
theorem dL_law_1107 : decode cL_law 1107 = .ok (.iaload, 1) := bdL_law_1106.2.1
theorem dL_law_1108 : decode cL_law 1108 = .ok (.invokevirtual 138, 3) := bdL_law_1106.2.2.1
theorem dL_law_1111 : decode cL_law 1111 = .ok (.pop, 1) := bdL_law_1106.2.2.2.1
theorem dL_law_1112 : decode cL_law 1112 = .ok (.aload_n 2, 1) := bdL_law_1106.2.2.2.2.1
theorem dL_law_1113 : decode cL_law 1113 = .ok (.aload_n 0, 1) := bdL_law_1106.2.2.2.2.2.1
theorem dL_law_1114 : decode cL_law 1114 = .ok (.iload_n 3, 1) := bdL_law_1106.2.2.2.2.2.2.1
theorem dL_law_1115 : decode cL_law 1115 = .ok (.iconst 1, 1) := bdL_law_1106.2.2.2.2.2.2.2.1
theorem dL_law_1116 : decode cL_law 1116 = .ok (.iadd, 1) := bdL_law_1106.2.2.2.2.2.2.2.2.1
theorem dL_law_1117 : decode cL_law 1117 = .ok (.iaload, 1) := bdL_law_1106.2.2.2.2.2.2.2.2.2.1
theorem dL_law_1118 : decode cL_law 1118 = .ok (.invokevirtual 141, 3) := bdL_law_1106.2.2.2.2.2.2.2.2.2.2.1
theorem dL_law_1121 : decode cL_law 1121 = .ok (.pop, 1) := bdL_law_1106.2.2.2.2.2.2.2.2.2.2.2.1
theorem dL_law_1122 : decode cL_law 1122 = .ok (.goto 303, 3) := bdL_law_1106.2.2.2.2.2.2.2.2.2.2.2.2.1
theorem dL_law_1125 : decode cL_law 1125 = .ok (.aload_n 1, 1) := bdL_law_1106.2.2.2.2.2.2.2.2.2.2.2.2.2.1
theorem dL_law_1126 : decode cL_law 1126 = .ok (.aload_n 0, 1) := bdL_law_1106.2.2.2.2.2.2.2.2.2.2.2.2.2.2.1
theorem dL_law_1127 : decode cL_law 1127 = .ok (.iload_n 3, 1) := bdL_law_1106.2.2.2.2.2.2.2.2.2.2.2.2.2.2.2.1
theorem dL_law_1128 : decode cL_law 1128 = .ok (.iconst 1, 1) := bdL_law_1106.2.2.2.2.2.2.2.2.2.2.2.2.2.2.2.2.1
theorem dL_law_1129 : decode cL_law 1129 = .ok (.iadd, 1) := bdL_law_1106.2.2.2.2.2.2.2.2.2.2.2.2.2.2.2.2.2.1
theorem dL_law_1130 : decode cL_law 1130 = .ok (.iaload, 1) := bdL_law_1106.2.2.2.2.2.2.2.2.2.2.2.2.2.2.2.2.2.2.1
theorem dL_law_1131 : decode cL_law 1131 = .ok (.aload_n 0, 1) := bdL_law_1106.2.2.2.2.2.2.2.2.2.2.2.2.2.2.2.2.2.2.2.1
theorem dL_law_1132 : decode cL_law 1132 = .ok (.iload_n 3, 1) := bdL_law_1106.2.2.2.2.2.2.2.2.2.2.2.2.2.2.2.2.2.2.2.2.1
theorem dL_law_1133 : decode cL_law 1133 = .ok (.iconst 2, 1) := bdL_law_1106.2.2.2.2.2.2.2.2.2.2.2.2.2.2.2.2.2.2.2.2.2.1
theorem dL_law_1134 : decode cL_law 1134 = .ok (.iadd, 1) := bdL_law_1106.2.2.2.2.2.2.2.2.2.2.2.2.2.2.2.2.2.2.2.2.2.2.1
theorem dL_law_1135 : decode cL_law 1135 = .ok (.iaload, 1) := bdL_law_1106.2.2.2.2.2.2.2.2.2.2.2.2.2.2.2.2.2.2.2.2.2.2.2.1
theorem dL_law_1136 : decode cL_law 1136 = .ok (.aload_n 0, 1) := bdL_law_1106.2.2.2.2.2.2.2.2.2.2.2.2.2.2.2.2.2.2.2.2.2.2.2.2.1
theorem dL_law_1137 : decode cL_law 1137 = .ok (.iload_n 3, 1) := bdL_law_1106.2.2.2.2.2.2.2.2.2.2.2.2.2.2.2.2.2.2.2.2.2.2.2.2.2.1
theorem dL_law_1138 : decode cL_law 1138 = .ok (.iconst 3, 1) := bdL_law_1106.2.2.2.2.2.2.2.2.2.2.2.2.2.2.2.2.2.2.2.2.2.2.2.2.2.2.1
theorem dL_law_1139 : decode cL_law 1139 = .ok (.iadd, 1) := bdL_law_1106.2.2.2.2.2.2.2.2.2.2.2.2.2.2.2.2.2.2.2.2.2.2.2.2.2.2.2.1
theorem dL_law_1140 : decode cL_law 1140 = .ok (.iaload, 1) := bdL_law_1106.2.2.2.2.2.2.2.2.2.2.2.2.2.2.2.2.2.2.2.2.2.2.2.2.2.2.2.2.1
theorem dL_law_1141 : decode cL_law 1141 = .ok (.aload_n 0, 1) := bdL_law_1106.2.2.2.2.2.2.2.2.2.2.2.2.2.2.2.2.2.2.2.2.2.2.2.2.2.2.2.2.2.1
theorem dL_law_1142 : decode cL_law 1142 = .ok (.iload_n 3, 1) := bdL_law_1106.2.2.2.2.2.2.2.2.2.2.2.2.2.2.2.2.2.2.2.2.2.2.2.2.2.2.2.2.2.2.1
theorem dL_law_1143 : decode cL_law 1143 = .ok (.iconst 4, 1) := bdL_law_1106.2.2.2.2.2.2.2.2.2.2.2.2.2.2.2.2.2.2.2.2.2.2.2.2.2.2.2.2.2.2.2.1
theorem dL_law_1144 : decode cL_law 1144 = .ok (.iadd, 1) := bdL_law_1106.2.2.2.2.2.2.2.2.2.2.2.2.2.2.2.2.2.2.2.2.2.2.2.2.2.2.2.2.2.2.2.2.1
theorem dL_law_1145 : decode cL_law 1145 = .ok (.iaload, 1) := bdL_law_1106.2.2.2.2.2.2.2.2.2.2.2.2.2.2.2.2.2.2.2.2.2.2.2.2.2.2.2.2.2.2.2.2.2.1
theorem dL_law_1146 : decode cL_law 1146 = .ok (.aload_n 0, 1) := bdL_law_1106.2.2.2.2.2.2.2.2.2.2.2.2.2.2.2.2.2.2.2.2.2.2.2.2.2.2.2.2.2.2.2.2.2.2.1
theorem dL_law_1147 : decode cL_law 1147 = .ok (.iload_n 3, 1) := bdL_law_1106.2.2.2.2.2.2.2.2.2.2.2.2.2.2.2.2.2.2.2.2.2.2.2.2.2.2.2.2.2.2.2.2.2.2.2.1
theorem dL_law_1148 : decode cL_law 1148 = .ok (.iconst 5, 1) := bdL_law_1106.2.2.2.2.2.2.2.2.2.2.2.2.2.2.2.2.2.2.2.2.2.2.2.2.2.2.2.2.2.2.2.2.2.2.2.2.1
theorem dL_law_1149 : decode cL_law 1149 = .ok (.iadd, 1) := bdL_law_1106.2.2.2.2.2.2.2.2.2.2.2.2.2.2.2.2.2.2.2.2.2.2.2.2.2.2.2.2.2.2.2.2.2.2.2.2.2.1
theorem dL_law_1150 : decode cL_law 1150 = .ok (.iaload, 1) := bdL_law_1106.2.2.2.2.2.2.2.2.2.2.2.2.2.2.2.2.2.2.2.2.2.2.2.2.2.2.2.2.2.2.2.2.2.2.2.2.2.2.1
theorem dL_law_1151 : decode cL_law 1151 = .ok (.invokevirtual 142, 3) := bdL_law_1106.2.2.2.2.2.2.2.2.2.2.2.2.2.2.2.2.2.2.2.2.2.2.2.2.2.2.2.2.2.2.2.2.2.2.2.2.2.2.2
theorem bdL_law_1154 : (decode cL_law 1154 = .ok (.pop, 1)) ∧ (decode cL_law 1155 = .ok (.aload_n 2, 1)) ∧ (decode cL_law 1156 = .ok (.aload_n 0, 1)) ∧ (decode cL_law 1157 = .ok (.iload_n 3, 1)) ∧ (decode cL_law 1158 = .ok (.iconst 1, 1)) ∧ (decode cL_law 1159 = .ok (.iadd, 1)) ∧ (decode cL_law 1160 = .ok (.iaload, 1)) ∧ (decode cL_law 1161 = .ok (.aload_n 0, 1)) ∧ (decode cL_law 1162 = .ok (.iload_n 3, 1)) ∧ (decode cL_law 1163 = .ok (.iconst 2, 1)) ∧ (decode cL_law 1164 = .ok (.iadd, 1)) ∧ (decode cL_law 1165 = .ok (.iaload, 1)) ∧ (decode cL_law 1166 = .ok (.aload_n 0, 1)) ∧ (decode cL_law 1167 = .ok (.iload_n 3, 1)) ∧ (decode cL_law 1168 = .ok (.iconst 3, 1)) ∧ (decode cL_law 1169 = .ok (.iadd, 1)) ∧ (decode cL_law 1170 = .ok (.iaload, 1)) ∧ (decode cL_law 1171 = .ok (.aload_n 0, 1)) ∧ (decode cL_law 1172 = .ok (.iload_n 3, 1)) ∧ (decode cL_law 1173 = .ok (.iconst 4, 1)) ∧ (decode cL_law 1174 = .ok (.iadd, 1)) ∧ (decode cL_law 1175 = .ok (.iaload, 1)) ∧ (decode cL_law 1176 = .ok (.aload_n 0, 1)) ∧ (decode cL_law 1177 = .ok (.iload_n 3, 1)) ∧ (decode cL_law 1178 = .ok (.iconst 5, 1)) ∧ (decode cL_law 1179 = .ok (.iadd, 1)) ∧ (decode cL_law 1180 = .ok (.iaload, 1)) ∧ (decode cL_law 1181 = .ok (.invokevirtual 145, 3)) ∧ (decode cL_law 1184 = .ok (.pop, 1)) ∧ (decode cL_law 1185 = .ok (.goto 240, 3)) ∧ (decode cL_law 1188 = .ok (.aload_n 1, 1)) ∧ (decode cL_law 1189 = .ok (.aload_n 0, 1)) ∧ (decode cL_law 1190 = .ok (.iload_n 3, 1)) ∧ (decode cL_law 1191 = .ok (.iconst 1, 1)) ∧ (decode cL_law 1192 = .ok (.iadd, 1)) ∧ (decode cL_law 1193 = .ok (.iaload, 1)) ∧ (decode cL_law 1194 = .ok (.aload_n 0, 1)) ∧ (decode cL_law 1195 = .ok (.iload_n 3, 1)) ∧ (decode cL_law 1196 = .ok (.iconst 2, 1)) ∧ (decode cL_law 1197 = .ok (.iadd, 1)) := by decide +kernel
theorem dL_law_1154 : decode cL_law 1154 = .ok (.pop, 1) := bdL_law_1154.1
theorem dL_law_1155 : decode cL_law 1155 = .ok (.aload_n 2, 1) := bdL_law_1154.2.1
theorem dL_law_1156 : decode cL_law 1156 = .ok (.aload_n 0, 1) := bdL_law_1154.2.2.1
theorem dL_law_1157 : decode cL_law 1157 = .ok (.iload_n 3, 1) := bdL_law_1154.2.2.2.1
theorem dL_law_1158 : decode cL_law 1158 = .ok (.iconst 1, 1) := bdL_law_1154.2.2.2.2.1
theorem dL_law_1159 : decode cL_law 1159 = .ok (.iadd, 1) := bdL_law_1154.2.2.2.2.2.1
theorem dL_law_1160 : decode cL_law 1160 = .ok (.iaload, 1) := bdL_law_1154.2.2.2.2.2.2.1
theorem dL_law_1161 : decode cL_law 1161 = .ok (.aload_n 0, 1) := bdL_law_1154.2.2.2.2.2.2.2.1
theorem dL_law_1162 : decode cL_law 1162 = .ok (.iload_n 3, 1) := bdL_law_1154.2.2.2.2.2.2.2.2.1
theorem dL_law_1163 : decode cL_law 1163 = .ok (.iconst 2, 1) := bdL_law_1154.2.2.2.2.2.2.2.2.2.1
theorem dL_law_1164 : decode cL_law 1164 = .ok (.iadd, 1) := bdL_law_1154.2.2.2.2.2.2.2.2.2.2.1
theorem dL_law_1165 : decode cL_law 1165 = .ok (.iaload, 1) := bdL_law_1154.2.2.2.2.2.2.2.2.2.2.2.1
theorem dL_law_1166 : decode cL_law 1166 = .ok (.aload_n 0, 1) := bdL_law_1154.2.2.2.2.2.2.2.2.2.2.2.2.1
theorem dL_law_1167 : decode cL_law 1167 = .ok (.iload_n 3, 1) := bdL_law_1154.2.2.2.2.2.2.2.2.2.2.2.2.2.1
theorem dL_law_1168 : decode cL_law 1168 = .ok (.iconst 3, 1) := bdL_law_1154.2.2.2.2.2.2.2.2.2.2.2.2.2.2.1
theorem dL_law_1169 : decode cL_law 1169 = .ok (.iadd, 1) := bdL_law_1154.2.2.2.2.2.2.2.2.2.2.2.2.2.2.2.1
theorem dL_law_1170 : decode cL_law 1170 = .ok (.iaload, 1) := bdL_law_1154.2.2.2.2.2.2.2.2.2.2.2.2.2.2.2.2.1
theorem dL_law_1171 : decode cL_law 1171 = .ok (.aload_n 0, 1) := bdL_law_1154.2.2.2.2.2.2.2.2.2.2.2.2.2.2.2.2.2.1
theorem dL_law_1172 : decode cL_law 1172 = .ok (.iload_n 3, 1) := bdL_law_1154.2.2.2.2.2.2.2.2.2.2.2.2.2.2.2.2.2.2.1
theorem dL_law_1173 : decode cL_law 1173 = .ok (.iconst 4, 1) := bdL_law_1154.2.2.2.2.2.2.2.2.2.2.2.2.2.2.2.2.2.2.2.1
theorem dL_law_1174 : decode cL_law 1174 = .ok (.iadd, 1) := bdL_law_1154.2.2.2.2.2.2.2.2.2.2.2.2.2.2.2.2.2.2.2.2.1
theorem dL_law_1175 : decode cL_law 1175 = .ok (.iaload, 1) := bdL_law_1154.2.2.2.2.2.2.2.2.2.2.2.2.2.2.2.2.2.2.2.2.2.1
theorem dL_law_1176 : decode cL_law 1176 = .ok (.aload_n 0, 1) := bdL_law_1154.2.2.2.2.2.2.2.2.2.2.2.2.2.2.2.2.2.2.2.2.2.2.1
theorem dL_law_1177 : decode cL_law 1177 = .ok (.iload_n 3, 1) := bdL_law_1154.2.2.2.2.2.2.2.2.2.2.2.2.2.2.2.2.2.2.2.2.2.2.2.1
theorem dL_law_1178 : decode cL_law 1178 = .ok (.iconst 5, 1) := bdL_law_1154.2.2.2.2.2.2.2.2.2.2.2.2.2.2.2.2.2.2.2.2.2.2.2.2.1
theorem dL_law_1179 : decode cL_law 1179 = .ok (.iadd, 1) := bdL_law_1154.2.2.2.2.2.2.2.2.2.2.2.2.2.2.2.2.2.2.2.2.2.2.2.2.2.1
theorem dL_law_1180 : decode cL_law 1180 = .ok (.iaload, 1) := bdL_law_1154.2.2.2.2.2.2.2.2.2.2.2.2.2.2.2.2.2.2.2.2.2.2.2.2.2.2.1
theorem dL_law_1181 : decode cL_law 1181 = .ok (.invokevirtual 145, 3) := bdL_law_1154.2.2.2.2.2.2.2.2.2.2.2.2.2.2.2.2.2.2.2.2.2.2.2.2.2.2.2.1
theorem dL_law_1184 : decode cL_law 1184 = .ok (.pop, 1) := bdL_law_1154.2.2.2.2.2.2.2.2.2.2.2.2.2.2.2.2.2.2.2.2.2.2.2.2.2.2.2.2.1
theorem dL_law_1185 : decode cL_law 1185 = .ok (.goto 240, 3) := bdL_law_1154.2.2.2.2.2.2.2.2.2.2.2.2.2.2.2.2.2.2.2.2.2.2.2.2.2.2.2.2.2.1
theorem dL_law_1188 : decode cL_law 1188 = .ok (.aload_n 1, 1) := bdL_law_1154.2.2.2.2.2.2.2.2.2.2.2.2.2.2.2.2.2.2.2.2.2.2.2.2.2.2.2.2.2.2.1
theorem dL_law_1189 : decode cL_law 1189 = .ok (.aload_n 0, 1) := bdL_law_1154.2.2.2.2.2.2.2.2.2.2.2.2.2.2.2.2.2.2.2.2.2.2.2.2.2.2.2.2.2.2.2.1
theorem dL_law_1190 : decode cL_law 1190 = .ok (.iload_n 3, 1) := bdL_law_1154.2.2.2.2.2.2.2.2.2.2.2.2.2.2.2.2.2.2.2.2.2.2.2.2.2.2.2.2.2.2.2.2.1
theorem dL_law_1191 : decode cL_law 1191 = .ok (.iconst 1, 1) := bdL_law_1154.2.2.2.2.2.2.2.2.2.2.2.2.2.2.2.2.2.2.2.2.2.2.2.2.2.2.2.2.2.2.2.2.2.1
theorem dL_law_1192 : decode cL_law 1192 = .ok (.iadd, 1) := bdL_law_1154.2.2.2.2.2.2.2.2.2.2.2.2.2.2.2.2.2.2.2.2.2.2.2.2.2.2.2.2.2.2.2.2.2.2.1
theorem dL_law_1193 : decode cL_law 1193 = .ok (.iaload, 1) := bdL_law_1154.2.2.2.2.2.2.2.2.2.2.2.2.2.2.2.2.2.2.2.2.2.2.2.2.2.2.2.2.2.2.2.2.2.2.2.1
theorem dL_law_1194 : decode cL_law 1194 = .ok (.aload_n 0, 1) := bdL_law_1154.2.2.2.2.2.2.2.2.2.2.2.2.2.2.2.2.2.2.2.2.2.2.2.2.2.2.2.2.2.2.2.2.2.2.2.2.1
theorem dL_law_1195 : decode cL_law 1195 = .ok (.iload_n 3, 1) := bdL_law_1154.2.2.2.2.2.2.2.2.2.2.2.2.2.2.2.2.2.2.2.2.2.2.2.2.2.2.2.2.2.2.2.2.2.2.2.2.2.1
theorem dL_law_1196 : decode cL_law 1196 = .ok (.iconst 2, 1) := bdL_law_1154.2.2.2.2.2.2.2.2.2.2.2.2.2.2.2.2.2.2.2.2.2.2.2.2.2.2.2.2.2.2.2.2.2.2.2.2.2.2.1
theorem dL_law_1197 : decode cL_law 1197 = .ok (.iadd, 1) := bdL_law_1154.2.2.2.2.2.2.2.2.2.2.2.2.2.2.2.2.2.2.2.2.2.2.2.2.2.2.2.2.2.2.2.2.2.2.2.2.2.2.2
theorem bdL_law_1198 : (decode cL_law 1198 = .ok (.iaload, 1)) ∧ (decode cL_law 1199 = .ok (.aload_n 0, 1)) ∧ (decode cL_law 1200 = .ok (.iload_n 3, 1)) ∧ (decode cL_law 1201 = .ok (.iconst 3, 1)) ∧ (decode cL_law 1202 = .ok (.iadd, 1)) ∧ (decode cL_law 1203 = .ok (.iaload, 1)) ∧ (decode cL_law 1204 = .ok (.invokevirtual 146, 3)) ∧ (decode cL_law 1207 = .ok (.pop, 1)) ∧ (decode cL_law 1208 = .ok (.aload_n 2, 1)) ∧ (decode cL_law 1209 = .ok (.aload_n 0, 1)) ∧ (decode cL_law 1210 = .ok (.iload_n 3, 1)) ∧ (decode cL_law 1211 = .ok (.iconst 1, 1)) ∧ (decode cL_law 1212 = .ok (.iadd, 1)) ∧ (decode cL_law 1213 = .ok (.iaload, 1)) ∧ (decode cL_law 1214 = .ok (.aload_n 0, 1)) ∧ (decode cL_law 1215 = .ok (.iload_n 3, 1)) ∧ (decode cL_law 1216 = .ok (.iconst 2, 1)) ∧ (decode cL_law 1217 = .ok (.iadd, 1)) ∧ (decode cL_law 1218 = .ok (.iaload, 1)) ∧ (decode cL_law 1219 = .ok (.aload_n 0, 1)) ∧ (decode cL_law 1220 = .ok (.iload_n 3, 1)) ∧ (decode cL_law 1221 = .ok (.iconst 3, 1)) ∧ (decode cL_law 1222 = .ok (.iadd, 1)) ∧ (decode cL_law 1223 = .ok (.iaload, 1)) ∧ (decode cL_law 1224 = .ok (.invokevirtual 149, 3)) ∧ (decode cL_law 1227 = .ok (.pop, 1)) ∧ (decode cL_law 1228 = .ok (.goto 197, 3)) ∧ (decode cL_law 1231 = .ok (.aload_n 1, 1)) ∧ (decode cL_law 1232 = .ok (.aload_n 0, 1)) ∧ (decode cL_law 1233 = .ok (.iload_n 3, 1)) ∧ (decode cL_law 1234 = .ok (.iconst 1, 1)) ∧ (decode cL_law 1235 = .ok (.iadd, 1)) ∧ (decode cL_law 1236 = .ok (.iaload, 1)) ∧ (decode cL_law 1237 = .ok (.aload_n 0, 1)) ∧ (decode cL_law 1238 = .ok (.iload_n 3, 1)) ∧ (decode cL_law 1239 = .ok (.iconst 2, 1)) ∧ (decode cL_law 1240 = .ok (.iadd, 1)) ∧ (decode cL_law 1241 = .ok (.iaload, 1)) ∧ (decode cL_law 1242 = .ok (.invokevirtual 150, 3)) ∧ (decode cL_law 1245 = .ok (.pop, 1)) := by decide +kernel
theorem dL_law_1198 : decode cL_law 1198 = .ok (.iaload, 1) := bdL_law_1198.1
theorem dL_law_1199 : decode cL_law 1199 = .ok (.aload_n 0, 1) := bdL_law_1198.2.1
theorem dL_law_1200 : decode cL_law 1200 = .ok (.iload_n 3, 1) := bdL_law_1198.2.2.1
theorem dL_law_1201 : decode cL_law 1201 = .ok (.iconst 3, 1) := bdL_law_1198.2.2.2.1
theorem dL_law_1202 : decode cL_law 1202 = .ok (.iadd, 1) := bdL_law_1198.2.2.2.2.1
theorem dL_law_1203 : decode cL_law 1203 = .ok (.iaload, 1) := bdL_law_1198.2.2.2.2.2.1
theorem dL_law_1204 : decode cL_law 1204 = .ok (.invokevirtual 146, 3) := bdL_law_1198.2.2.2.2.2.2.1
theorem dL_law_1207 : decode cL_law 1207 = .ok (.pop, 1) := bdL_law_1198.2.2.2.2.2.2.2.1
theorem dL_law_1208 : decode cL_law 1208 = .ok (.aload_n 2, 1) := bdL_law_1198.2.2.2.2.2.2.2.2.1
theorem dL_law_1209 : decode cL_law 1209 = .ok (.aload_n 0, 1) := bdL_law_1198.2.2.2.2.2.2.2.2.2.1
theorem dL_law_1210 : decode cL_law 1210 = .ok (.iload_n 3, 1) := bdL_law_1198.2.2.2.2.2.2.2.2.2.2.1
theorem dL_law_1211 : decode cL_law 1211 = .ok (.iconst 1, 1) := bdL_law_1198.2.2.2.2.2.2.2.2.2.2.2.1
theorem dL_law_1212 : decode cL_law 1212 = .ok (.iadd, 1) := bdL_law_1198.2.2.2.2.2.2.2.2.2.2.2.2.1
theorem dL_law_1213 : decode cL_law 1213 = .ok (.iaload, 1) := bdL_law_1198.2.2.2.2.2.2.2.2.2.2.2.2.2.1
theorem dL_law_1214 : decode cL_law 1214 = .ok (.aload_n 0, 1) := bdL_law_1198.2.2.2.2.2.2.2.2.2.2.2.2.2.2.1
theorem dL_law_1215 : decode cL_law 1215 = .ok (.iload_n 3, 1) := bdL_law_1198.2.2.2.2.2.2.2.2.2.2.2.2.2.2.2.1
theorem dL_law_1216 : decode cL_law 1216 = .ok (.iconst 2, 1) := bdL_law_1198.2.2.2.2.2.2.2.2.2.2.2.2.2.2.2.2.1
theorem dL_law_1217 : decode cL_law 1217 = .ok (.iadd, 1) := bdL_law_1198.2.2.2.2.2.2.2.2.2.2.2.2.2.2.2.2.2.1
theorem dL_law_1218 : decode cL_law 1218 = .ok (.iaload, 1) := bdL_law_1198.2.2.2.2.2.2.2.2.2.2.2.2.2.2.2.2.2.2.1
theorem dL_law_1219 : decode cL_law 1219 = .ok (.aload_n 0, 1) := bdL_law_1198.2.2.2.2.2.2.2.2.2.2.2.2.2.2.2.2.2.2.2.1
theorem dL_law_1220 : decode cL_law 1220 = .ok (.iload_n 3, 1) := bdL_law_1198.2.2.2.2.2.2.2.2.2.2.2.2.2.2.2.2.2.2.2.2.1
theorem dL_law_1221 : decode cL_law 1221 = .ok (.iconst 3, 1) := bdL_law_1198.2.2.2.2.2.2.2.2.2.2.2.2.2.2.2.2.2.2.2.2.2.1
theorem dL_law_1222 : decode cL_law 1222 = .ok (.iadd, 1) := bdL_law_1198.2.2.2.2.2.2.2.2.2.2.2.2.2.2.2.2.2.2.2.2.2.2.1
theorem dL_law_1223 : decode cL_law 1223 = .ok (.iaload, 1) := bdL_law_1198.2.2.2.2.2.2.2.2.2.2.2.2.2.2.2.2.2.2.2.2.2.2.2.1
theorem dL_law_1224 : decode cL_law 1224 = .ok (.invokevirtual 149, 3) := bdL_law_1198.2.2.2.2.2.2.2.2.2.2.2.2.2.2.2.2.2.2.2.2.2.2.2.2.1
theorem dL_law_1227 : decode cL_law 1227 = .ok (.pop, 1) := bdL_law_1198.2.2.2.2.2.2.2.2.2.2.2.2.2.2.2.2.2.2.2.2.2.2.2.2.2.1
theorem dL_law_1228 : decode cL_law 1228 = .ok (.goto 197, 3) := bdL_law_1198.2.2.2.2.2.2.2.2.2.2.2.2.2.2.2.2.2.2.2.2.2.2.2.2.2.2.1
theorem dL_law_1231 : decode cL_law 1231 = .ok (.aload_n 1, 1) := bdL_law_1198.2.2.2.2.2.2.2.2.2.2.2.2.2.2.2.2.2.2.2.2.2.2.2.2.2.2.2.1
theorem dL_law_1232 : decode cL_law 1232 = .ok (.aload_n 0, 1) := bdL_law_1198.2.2.2.2.2.2.2.2.2.2.2.2.2.2.2.2.2.2.2.2.2.2.2.2.2.2.2.2.1
theorem dL_law_1233 : decode cL_law 1233 = .ok (.iload_n 3, 1) := bdL_law_1198.2.2.2.2.2.2.2.2.2.2.2.2.2.2.2.2.2.2.2.2.2.2.2.2.2.2.2.2.2.1
theorem dL_law_1234 : decode cL_law 1234 = .ok (.iconst 1, 1) := bdL_law_1198.2.2.2.2.2.2.2.2.2.2.2.2.2.2.2.2.2.2.2.2.2.2.2.2.2.2.2.2.2.2.1
theorem dL_law_1235 : decode cL_law 1235 = .ok (.iadd, 1) := bdL_law_1198.2.2.2.2.2.2.2.2.2.2.2.2.2.2.2.2.2.2.2.2.2.2.2.2.2.2.2.2.2.2.2.1
theorem dL_law_1236 : decode cL_law 1236 = .ok (.iaload, 1) := bdL_law_1198.2.2.2.2.2.2.2.2.2.2.2.2.2.2.2.2.2.2.2.2.2.2.2.2.2.2.2.2.2.2.2.2.1
theorem dL_law_1237 : decode cL_law 1237 = .ok (.aload_n 0, 1) := bdL_law_1198.2.2.2.2.2.2.2.2.2.2.2.2.2.2.2.2.2.2.2.2.2.2.2.2.2.2.2.2.2.2.2.2.2.1
theorem dL_law_1238 : decode cL_law 1238 = .ok (.iload_n 3, 1) := bdL_law_1198.2.2.2.2.2.2.2.2.2.2.2.2.2.2.2.2.2.2.2.2.2.2.2.2.2.2.2.2.2.2.2.2.2.2.1
theorem dL_law_1239 : decode cL_law 1239 = .ok (.iconst 2, 1) := bdL_law_1198.2.2.2.2.2.2.2.2.2.2.2.2.2.2.2.2.2.2.2.2.2.2.2.2.2.2.2.2.2.2.2.2.2.2.2.1
theorem dL_law_1240 : decode cL_law 1240 = .ok (.iadd, 1) := bdL_law_1198.2.2.2.2.2.2.2.2.2.2.2.2.2.2.2.2.2.2.2.2.2.2.2.2.2.2.2.2.2.2.2.2.2.2.2.2.1
theorem dL_law_1241 : decode cL_law 1241 = .ok (.iaload, 1) := bdL_law_1198.2.2.2.2.2.2.2.2.2.2.2.2.2.2.2.2.2.2.2.2.2.2.2.2.2.2.2.2.2.2.2.2.2.2.2.2.2.1
theorem dL_law_1242 : decode cL_law 1242 = .ok (.invokevirtual 150, 3) := bdL_law_1198.2.2.2.2.2.2.2.2.2.2.2.2.2.2.2.2.2.2.2.2.2.2.2.2.2.2.2.2.2.2.2.2.2.2.2.2.2.2.1
theorem dL_law_1245 : decode cL_law 1245 = .ok (.pop, 1) := bdL_law_1198.2.2.2.2.2.2.2.2.2.2.2.2.2.2.2.2.2.2.2.2.2.2.2.2.2.2.2.2.2.2.2.2.2.2.2.2.2.2.2
theorem bdL_law_1246 : (decode cL_law 1246 = .ok (.aload_n 2, 1)) ∧ (decode cL_law 1247 = .ok (.aload_n 0, 1)) ∧ (decode cL_law 1248 = .ok (.iload_n 3, 1)) ∧ (decode cL_law 1249 = .ok (.iconst 1, 1)) ∧ (decode cL_law 1250 = .ok (.iadd, 1)) ∧ (decode cL_law 1251 = .ok (.iaload, 1)) ∧ (decode cL_law 1252 = .ok (.aload_n 0, 1)) ∧ (decode cL_law 1253 = .ok (.iload_n 3, 1)) ∧ (decode cL_law 1254 = .ok (.iconst 2, 1)) ∧ (decode cL_law 1255 = .ok (.iadd, 1)) ∧ (decode cL_law 1256 = .ok (.iaload, 1)) ∧ (decode cL_law 1257 = .ok (.invokevirtual 153, 3)) ∧ (decode cL_law 1260 = .ok (.pop, 1)) ∧ (decode cL_law 1261 = .ok (.goto 164, 3)) ∧ (decode cL_law 1264 = .ok (.aload_n 1, 1)) ∧ (decode cL_law 1265 = .ok (.aload_n 0, 1)) ∧ (decode cL_law 1266 = .ok (.iload_n 3, 1)) ∧ (decode cL_law 1267 = .ok (.iconst 1, 1)) ∧ (decode cL_law 1268 = .ok (.iadd, 1)) ∧ (decode cL_law 1269 = .ok (.iaload, 1)) ∧ (decode cL_law 1270 = .ok (.aload_n 0, 1)) ∧ (decode cL_law 1271 = .ok (.iload_n 3, 1)) ∧ (decode cL_law 1272 = .ok (.iconst 2, 1)) ∧ (decode cL_law 1273 = .ok (.iadd, 1)) ∧ (decode cL_law 1274 = .ok (.iaload, 1)) ∧ (decode cL_law 1275 = .ok (.invokevirtual 154, 3)) ∧ (decode cL_law 1278 = .ok (.pop, 1)) ∧ (decode cL_law 1279 = .ok (.aload_n 2, 1)) ∧ (decode cL_law 1280 = .ok (.aload_n 0, 1)) ∧ (decode cL_law 1281 = .ok (.iload_n 3, 1)) ∧ (decode cL_law 1282 = .ok (.iconst 1, 1)) ∧ (decode cL_law 1283 = .ok (.iadd, 1)) ∧ (decode cL_law 1284 = .ok (.iaload, 1)) ∧ (decode cL_law 1285 = .ok (.aload_n 0, 1)) ∧ (decode cL_law 1286 = .ok (.iload_n 3, 1)) ∧ (decode cL_law 1287 = .ok (.iconst 2, 1)) ∧ (decode cL_law 1288 = .ok (.iadd, 1)) ∧ (decode cL_law 1289 = .ok (.iaload, 1)) ∧ (decode cL_law 1290 = .ok (.invokevirtual 157, 3)) ∧ (decode cL_law 1293 = .ok (.pop, 1)) := by decide +kernel
theorem dL_law_1246 : decode cL_law 1246 = .ok (.aload_n 2, 1) := bdL_law_1246.1
theorem dL_law_1247 : decode cL_law 1247 = .ok (.aload_n 0, 1) := bdL_law_1246.2.1
theorem dL_law_1248 : decode cL_law 1248 = .ok (.iload_n 3, 1) := bdL_law_1246.2.2.1
theorem dL_law_1249 : decode cL_law 1249 = .ok (.iconst 1, 1) := bdL_law_1246.2.2.2.1
theorem dL_law_1250 : decode cL_law 1250 = .ok (.iadd, 1) := bdL_law_1246.2.2.2.2.1
theorem dL_law_1251 : decode cL_law 1251 = .ok (.iaload, 1) := bdL_law_1246.2.2.2.2.2.1
theorem dL_law_1252 : decode cL_law 1252 = .ok (.aload_n 0, 1) := bdL_law_1246.2.2.2.2.2.2.1
theorem dL_law_1253 : decode cL_law 1253 = .ok (.iload_n 3, 1) := bdL_law_1246.2.2.2.2.2.2.2.1
theorem dL_law_1254 : decode cL_law 1254 = .ok (.iconst 2, 1) := bdL_law_1246.2.2.2.2.2.2.2.2.1
theorem dL_law_1255 : decode cL_law 1255 = .ok (.iadd, 1) := bdL_law_1246.2.2.2.2.2.2.2.2.2.1
theorem dL_law_1256 : decode cL_law 1256 = .ok (.iaload, 1) := bdL_law_1246.2.2.2.2.2.2.2.2.2.2.1
theorem dL_law_1257 : decode cL_law 1257 = .ok (.invokevirtual 153, 3) := bdL_law_1246.2.2.2.2.2.2.2.2.2.2.2.1
theorem dL_law_1260 : decode cL_law 1260 = .ok (.pop, 1) := bdL_law_1246.2.2.2.2.2.2.2.2.2.2.2.2.1
theorem dL_law_1261 : decode cL_law 1261 = .ok (.goto 164, 3) := bdL_law_1246.2.2.2.2.2.2.2.2.2.2.2.2.2.1
theorem dL_law_1264 : decode cL_law 1264 = .ok (.aload_n 1, 1) := bdL_law_1246.2.2.2.2.2.2.2.2.2.2.2.2.2.2.1
theorem dL_law_1265 : decode cL_law 1265 = .ok (.aload_n 0, 1) := bdL_law_1246.2.2.2.2.2.2.2.2.2.2.2.2.2.2.2.1
theorem dL_law_1266 : decode cL_law 1266 = .ok (.iload_n 3, 1) := bdL_law_1246.2.2.2.2.2.2.2.2.2.2.2.2.2.2.2.2.1
theorem dL_law_1267 : decode cL_law 1267 = .ok (.iconst 1, 1) := bdL_law_1246.2.2.2.2.2.2.2.2.2.2.2.2.2.2.2.2.2.1
theorem dL_law_1268 : decode cL_law 1268 = .ok (.iadd, 1) := bdL_law_1246.2.2.2.2.2.2.2.2.2.2.2.2.2.2.2.2.2.2.1
theorem dL_law_1269 : decode cL_law 1269 = .ok (.iaload, 1) := bdL_law_1246.2.2.2.2.2.2.2.2.2.2.2.2.2.2.2.2.2.2.2.1
theorem dL_law_1270 : decode cL_law 1270 = .ok (.aload_n 0, 1) := bdL_law_1246.2.2.2.2.2.2.2.2.2.2.2.2.2.2.2.2.2.2.2.2.1
theorem dL_law_1271 : decode cL_law 1271 = .ok (.iload_n 3, 1) := bdL_law_1246.2.2.2.2.2.2.2.2.2.2.2.2.2.2.2.2.2.2.2.2.2.1
theorem dL_law_1272 : decode cL_law 1272 = .ok (.iconst 2, 1) := bdL_law_1246.2.2.2.2.2.2.2.2.2.2.2.2.2.2.2.2.2.2.2.2.2.2.1
theorem dL_law_1273 : decode cL_law 1273 = .ok (.iadd, 1) := bdL_law_1246.2.2.2.2.2.2.2.2.2.2.2.2.2.2.2.2.2.2.2.2.2.2.2.1
theorem dL_law_1274 : decode cL_law 1274 = .ok (.iaload, 1) := bdL_law_1246.2.2.2.2.2.2.2.2.2.2.2.2.2.2.2.2.2.2.2.2.2.2.2.2.1
theorem dL_law_1275 : decode cL_law 1275 = .ok (.invokevirtual 154, 3) := bdL_law_1246.2.2.2.2.2.2.2.2.2.2.2.2.2.2.2.2.2.2.2.2.2.2.2.2.2.1
theorem dL_law_1278 : decode cL_law 1278 = .ok (.pop, 1) := bdL_law_1246.2.2.2.2.2.2.2.2.2.2.2.2.2.2.2.2.2.2.2.2.2.2.2.2.2.2.1
theorem dL_law_1279 : decode cL_law 1279 = .ok (.aload_n 2, 1) := bdL_law_1246.2.2.2.2.2.2.2.2.2.2.2.2.2.2.2.2.2.2.2.2.2.2.2.2.2.2.2.1
theorem dL_law_1280 : decode cL_law 1280 = .ok (.aload_n 0, 1) := bdL_law_1246.2.2.2.2.2.2.2.2.2.2.2.2.2.2.2.2.2.2.2.2.2.2.2.2.2.2.2.2.1
theorem dL_law_1281 : decode cL_law 1281 = .ok (.iload_n 3, 1) := bdL_law_1246.2.2.2.2.2.2.2.2.2.2.2.2.2.2.2.2.2.2.2.2.2.2.2.2.2.2.2.2.2.1
theorem dL_law_1282 : decode cL_law 1282 = .ok (.iconst 1, 1) := bdL_law_1246.2.2.2.2.2.2.2.2.2.2.2.2.2.2.2.2.2.2.2.2.2.2.2.2.2.2.2.2.2.2.1
theorem dL_law_1283 : decode cL_law 1283 = .ok (.iadd, 1) := bdL_law_1246.2.2.2.2.2.2.2.2.2.2.2.2.2.2.2.2.2.2.2.2.2.2.2.2.2.2.2.2.2.2.2.1
theorem dL_law_1284 : decode cL_law 1284 = .ok (.iaload, 1) := bdL_law_1246.2.2.2.2.2.2.2.2.2.2.2.2.2.2.2.2.2.2.2.2.2.2.2.2.2.2.2.2.2.2.2.2.1
theorem dL_law_1285 : decode cL_law 1285 = .ok (.aload_n 0, 1) := bdL_law_1246.2.2.2.2.2.2.2.2.2.2.2.2.2.2.2.2.2.2.2.2.2.2.2.2.2.2.2.2.2.2.2.2.2.1
theorem dL_law_1286 : decode cL_law 1286 = .ok (.iload_n 3, 1) := bdL_law_1246.2.2.2.2.2.2.2.2.2.2.2.2.2.2.2.2.2.2.2.2.2.2.2.2.2.2.2.2.2.2.2.2.2.2.1
theorem dL_law_1287 : decode cL_law 1287 = .ok (.iconst 2, 1) := bdL_law_1246.2.2.2.2.2.2.2.2.2.2.2.2.2.2.2.2.2.2.2.2.2.2.2.2.2.2.2.2.2.2.2.2.2.2.2.1
theorem dL_law_1288 : decode cL_law 1288 = .ok (.iadd, 1) := bdL_law_1246.2.2.2.2.2.2.2.2.2.2.2.2.2.2.2.2.2.2.2.2.2.2.2.2.2.2.2.2.2.2.2.2.2.2.2.2.1
theorem dL_law_1289 : decode cL_law 1289 = .ok (.iaload, 1) := bdL_law_1246.2.2.2.2.2.2.2.2.2.2.2.2.2.2.2.2.2.2.2.2.2.2.2.2.2.2.2.2.2.2.2.2.2.2.2.2.2.1
theorem dL_law_1290 : decode cL_law 1290 = .ok (.invokevirtual 157, 3) := bdL_law_1246.2.2.2.2.2.2.2.2.2.2.2.2.2.2.2.2.2.2.2.2.2.2.2.2.2.2.2.2.2.2.2.2.2.2.2.2.2.2.1
theorem dL_law_1293 : decode cL_law 1293 = .ok (.pop, 1) := bdL_law_1246.2.2.2.2.2.2.2.2.2.2.2.2.2.2.2.2.2.2.2.2.2.2.2.2.2.2.2.2.2.2.2.2.2.2.2.2.2.2.2
theorem bdL_law_1294 : (decode cL_law 1294 = .ok (.goto 131, 3)) ∧ (decode cL_law 1297 = .ok (.aload_n 1, 1)) ∧ (decode cL_law 1298 = .ok (.aload_n 0, 1)) ∧ (decode cL_law 1299 = .ok (.iload_n 3, 1)) ∧ (decode cL_law 1300 = .ok (.iconst 1, 1)) ∧ (decode cL_law 1301 = .ok (.iadd, 1)) ∧ (decode cL_law 1302 = .ok (.iaload, 1)) ∧ (decode cL_law 1303 = .ok (.aload_n 0, 1)) ∧ (decode cL_law 1304 = .ok (.iload_n 3, 1)) ∧ (decode cL_law 1305 = .ok (.iconst 2, 1)) ∧ (decode cL_law 1306 = .ok (.iadd, 1)) ∧ (decode cL_law 1307 = .ok (.iaload, 1)) ∧ (decode cL_law 1308 = .ok (.invokevirtual 158, 3)) ∧ (decode cL_law 1311 = .ok (.pop, 1)) ∧ (decode cL_law 1312 = .ok (.aload_n 2, 1)) ∧ (decode cL_law 1313 = .ok (.aload_n 0, 1)) ∧ (decode cL_law 1314 = .ok (.iload_n 3, 1)) ∧ (decode cL_law 1315 = .ok (.iconst 1, 1)) ∧ (decode cL_law 1316 = .ok (.iadd, 1)) ∧ (decode cL_law 1317 = .ok (.iaload, 1)) ∧ (decode cL_law 1318 = .ok (.aload_n 0, 1)) ∧ (decode cL_law 1319 = .ok (.iload_n 3, 1)) ∧ (decode cL_law 1320 = .ok (.iconst 2, 1)) ∧ (decode cL_law 1321 = .ok (.iadd, 1)) ∧ (decode cL_law 1322 = .ok (.iaload, 1)) ∧ (decode cL_law 1323 = .ok (.invokevirtual 161, 3)) ∧ (decode cL_law 1326 = .ok (.pop, 1)) ∧ (decode cL_law 1327 = .ok (.goto 98, 3)) ∧ (decode cL_law 1330 = .ok (.aload_n 1, 1)) ∧ (decode cL_law 1331 = .ok (.aload_n 0, 1)) ∧ (decode cL_law 1332 = .ok (.iload_n 3, 1)) ∧ (decode cL_law 1333 = .ok (.iconst 1, 1)) ∧ (decode cL_law 1334 = .ok (.iadd, 1)) ∧ (decode cL_law 1335 = .ok (.iaload, 1)) ∧ (decode cL_law 1336 = .ok (.invokevirtual 162, 3)) ∧ (decode cL_law 1339 = .ok (.pop, 1)) ∧ (decode cL_law 1340 = .ok (.aload_n 2, 1)) ∧ (decode cL_law 1341 = .ok (.aload_n 0, 1)) ∧ (decode cL_law 1342 = .ok (.iload_n 3, 1)) ∧ (decode cL_law 1343 = .ok (.iconst 1, 1)) := by decide +kernel
theorem dL_law_1294 : decode cL_law 1294 = .ok (.goto 131, 3) := bdL_law_1294.1
theorem dL_law_1297 : decode cL_law 1297 = .ok (.aload_n 1, 1) := bdL_law_1294.2.1
theorem dL_law_1298 : decode cL_law 1298 = .ok (.aload_n 0, 1) := bdL_law_1294.2.2.1
theorem dL_law_1299 : decode cL_law 1299 = .ok (.iload_n 3, 1) := bdL_law_1294.2.2.2.1
theorem dL_law_1300 : decode cL_law 1300 = .ok (.iconst 1, 1) := bdL_law_1294.2.2.2.2.1
theorem dL_law_1301 : decode cL_law 1301 = .ok (.iadd, 1) := bdL_law_1294.2.2.2.2.2.1
theorem dL_law_1302 : decode cL_law 1302 = .ok (.iaload, 1) := bdL_law_1294.2.2.2.2.2.2.1
theorem dL_law_1303 : decode cL_law 1303 = .ok (.aload_n 0, 1) := bdL_law_1294.2.2.2.2.2.2.2.1
theorem dL_law_1304 : decode cL_law 1304 = .ok (.iload_n 3, 1) := bdL_law_1294.2.2.2.2.2.2.2.2.1
theorem dL_law_1305 : decode cL_law 1305 = .ok (.iconst 2, 1) := bdL_law_1294.2.2.2.2.2.2.2.2.2.1
theorem dL_law_1306 : decode cL_law 1306 = .ok (.iadd, 1) := bdL_law_1294.2.2.2.2.2.2.2.2.2.2.1
theorem dL_law_1307 : decode cL_law 1307 = .ok (.iaload, 1) := bdL_law_1294.2.2.2.2.2.2.2.2.2.2.2.1
theorem dL_law_1308 : decode cL_law 1308 = .ok (.invokevirtual 158, 3) := bdL_law_1294.2.2.2.2.2.2.2.2.2.2.2.2.1
theorem dL_law_1311 : decode cL_law 1311 = .ok (.pop, 1) := bdL_law_1294.2.2.2.2.2.2.2.2.2.2.2.2.2.1
theorem dL_law_1312 : decode cL_law 1312 = .ok (.aload_n 2, 1) := bdL_law_1294.2.2.2.2.2.2.2.2.2.2.2.2.2.2.1
theorem dL_law_1313 : decode cL_law 1313 = .ok (.aload_n 0, 1) := bdL_law_1294.2.2.2.2.2.2.2.2.2.2.2.2.2.2.2.1
theorem dL_law_1314 : decode cL_law 1314 = .ok (.iload_n 3, 1) := bdL_law_1294.2.2.2.2.2.2.2.2.2.2.2.2.2.2.2.2.1
theorem dL_law_1315 : decode cL_law 1315 = .ok (.iconst 1, 1) := bdL_law_1294.2.2.2.2.2.2.2.2.2.2.2.2.2.2.2.2.2.1
theorem dL_law_1316 : decode cL_law 1316 = .ok (.iadd, 1) := bdL_law_1294.2.2.2.2.2.2.2.2.2.2.2.2.2.2.2.2.2.2.1
theorem dL_law_1317 : decode cL_law 1317 = .ok (.iaload, 1) := bdL_law_1294.2.2.2.2.2.2.2.2.2.2.2.2.2.2.2.2.2.2.2.1
theorem dL_law_1318 : decode cL_law 1318 = .ok (.aload_n 0, 1) := bdL_law_1294.2.2.2.2.2.2.2.2.2.2.2.2.2.2.2.2.2.2.2.2.1
theorem dL_law_1319 : decode cL_law 1319 = .ok (.iload_n 3, 1) := bdL_law_1294.2.2.2.2.2.2.2.2.2.2.2.2.2.2.2.2.2.2.2.2.2.1
theorem dL_law_1320 : decode cL_law 1320 = .ok (.iconst 2, 1) := bdL_law_1294.2.2.2.2.2.2.2.2.2.2.2.2.2.2.2.2.2.2.2.2.2.2.1
theorem dL_law_1321 : decode cL_law 1321 = .ok (.iadd, 1) := bdL_law_1294.2.2.2.2.2.2.2.2.2.2.2.2.2.2.2.2.2.2.2.2.2.2.2.1
theorem dL_law_1322 : decode cL_law 1322 = .ok (.iaload, 1) := bdL_law_1294.2.2.2.2.2.2.2.2.2.2.2.2.2.2.2.2.2.2.2.2.2.2.2.2.1
theorem dL_law_1323 : decode cL_law 1323 = .ok (.invokevirtual 161, 3) := bdL_law_1294.2.2.2.2.2.2.2.2.2.2.2.2.2.2.2.2.2.2.2.2.2.2.2.2.2.1
theorem dL_law_1326 : decode cL_law 1326 = .ok (.pop, 1) := bdL_law_1294.2.2.2.2.2.2.2.2.2.2.2.2.2.2.2.2.2.2.2.2.2.2.2.2.2.2.1
theorem dL_law_1327 : decode cL_law 1327 = .ok (.goto 98, 3) := bdL_law_1294.2.2.2.2.2.2.2.2.2.2.2.2.2.2.2.2.2.2.2.2.2.2.2.2.2.2.2.1
theorem dL_law_1330 : decode cL_law 1330 = .ok (.aload_n 1, 1) := bdL_law_1294.2.2.2.2.2.2.2.2.2.2.2.2.2.2.2.2.2.2.2.2.2.2.2.2.2.2.2.2.1
theorem dL_law_1331 : decode cL_law 1331 = .ok (.aload_n 0, 1) := bdL_law_1294.2.2.2.2.2.2.2.2.2.2.2.2.2.2.2.2.2.2.2.2.2.2.2.2.2.2.2.2.2.1
theorem dL_law_1332 : decode cL_law 1332 = .ok (.iload_n 3, 1) := bdL_law_1294.2.2.2.2.2.2.2.2.2.2.2.2.2.2.2.2.2.2.2.2.2.2.2.2.2.2.2.2.2.2.1
theorem dL_law_1333 : decode cL_law 1333 = .ok (.iconst 1, 1) := bdL_law_1294.2.2.2.2.2.2.2.2.2.2.2.2.2.2.2.2.2.2.2.2.2.2.2.2.2.2.2.2.2.2.2.1
theorem dL_law_1334 : decode cL_law 1334 = .ok (.iadd, 1) := bdL_law_1294.2.2.2.2.2.2.2.2.2.2.2.2.2.2.2.2.2.2.2.2.2.2.2.2.2.2.2.2.2.2.2.2.1
theorem dL_law_1335 : decode cL_law 1335 = .ok (.iaload, 1) := bdL_law_1294.2.2.2.2.2.2.2.2.2.2.2.2.2.2.2.2.2.2.2.2.2.2.2.2.2.2.2.2.2.2.2.2.2.1
theorem dL_law_1336 : decode cL_law 1336 = .ok (.invokevirtual 162, 3) := bdL_law_1294.2.2.2.2.2.2.2.2.2.2.2.2.2.2.2.2.2.2.2.2.2.2.2.2.2.2.2.2.2.2.2.2.2.2.1
theorem dL_law_1339 : decode cL_law 1339 = .ok (.pop, 1) := bdL_law_1294.2.2.2.2.2.2.2.2.2.2.2.2.2.2.2.2.2.2.2.2.2.2.2.2.2.2.2.2.2.2.2.2.2.2.2.1
theorem dL_law_1340 : decode cL_law 1340 = .ok (.aload_n 2, 1) := bdL_law_1294.2.2.2.2.2.2.2.2.2.2.2.2.2.2.2.2.2.2.2.2.2.2.2.2.2.2.2.2.2.2.2.2.2.2.2.2.1
theorem dL_law_1341 : decode cL_law 1341 = .ok (.aload_n 0, 1) := bdL_law_1294.2.2.2.2.2.2.2.2.2.2.2.2.2.2.2.2.2.2.2.2.2.2.2.2.2.2.2.2.2.2.2.2.2.2.2.2.2.1
theorem dL_law_1342 : decode cL_law 1342 = .ok (.iload_n 3, 1) := bdL_law_1294.2.2.2.2.2.2.2.2.2.2.2.2.2.2.2.2.2.2.2.2.2.2.2.2.2.2.2.2.2.2.2.2.2.2.2.2.2.2.1
theorem dL_law_1343 : decode cL_law 1343 = .ok (.iconst 1, 1) := bdL_law_1294.2.2.2.2.2.2.2.2.2.2.2.2.2.2.2.2.2.2.2.2.2.2.2.2.2.2.2.2.2.2.2.2.2.2.2.2.2.2.2
theorem bdL_law_1344 : (decode cL_law 1344 = .ok (.iadd, 1)) ∧ (decode cL_law 1345 = .ok (.iaload, 1)) ∧ (decode cL_law 1346 = .ok (.invokevirtual 165, 3)) ∧ (decode cL_law 1349 = .ok (.pop, 1)) ∧ (decode cL_law 1350 = .ok (.goto 75, 3)) ∧ (decode cL_law 1353 = .ok (.aload_n 1, 1)) ∧ (decode cL_law 1354 = .ok (.aload_n 0, 1)) ∧ (decode cL_law 1355 = .ok (.iload_n 3, 1)) ∧ (decode cL_law 1356 = .ok (.iconst 1, 1)) ∧ (decode cL_law 1357 = .ok (.iadd, 1)) ∧ (decode cL_law 1358 = .ok (.iaload, 1)) ∧ (decode cL_law 1359 = .ok (.invokevirtual 166, 3)) ∧ (decode cL_law 1362 = .ok (.pop, 1)) ∧ (decode cL_law 1363 = .ok (.aload_n 2, 1)) ∧ (decode cL_law 1364 = .ok (.aload_n 0, 1)) ∧ (decode cL_law 1365 = .ok (.iload_n 3, 1)) ∧ (decode cL_law 1366 = .ok (.iconst 1, 1)) ∧ (decode cL_law 1367 = .ok (.iadd, 1)) ∧ (decode cL_law 1368 = .ok (.iaload, 1)) ∧ (decode cL_law 1369 = .ok (.invokevirtual 169, 3)) ∧ (decode cL_law 1372 = .ok (.pop, 1)) ∧ (decode cL_law 1373 = .ok (.goto 52, 3)) ∧ (decode cL_law 1376 = .ok (.aload_n 1, 1)) ∧ (decode cL_law 1377 = .ok (.invokevirtual 170, 3)) ∧ (decode cL_law 1380 = .ok (.pop, 1)) ∧ (decode cL_law 1381 = .ok (.aload_n 2, 1)) ∧ (decode cL_law 1382 = .ok (.invokevirtual 173, 3)) ∧ (decode cL_law 1385 = .ok (.pop, 1)) ∧ (decode cL_law 1386 = .ok (.goto 39, 3)) ∧ (decode cL_law 1389 = .ok (.aload_n 1, 1)) ∧ (decode cL_law 1390 = .ok (.invokevirtual 174, 3)) ∧ (decode cL_law 1393 = .ok (.pop, 1)) ∧ (decode cL_law 1394 = .ok (.aload_n 2, 1)) ∧ (decode cL_law 1395 = .ok (.invokevirtual 177, 3)) ∧ (decode cL_law 1398 = .ok (.pop, 1)) ∧ (decode cL_law 1399 = .ok (.goto 26, 3)) ∧ (decode cL_law 1402 = .ok (.aload_n 1, 1)) ∧ (decode cL_law 1403 = .ok (.aload_n 0, 1)) ∧ (decode cL_law 1404 = .ok (.iload_n 3, 1)) ∧ (decode cL_law 1405 = .ok (.iconst 1, 1)) := by decide +kernel
theorem dL_law_1344 : decode cL_law 1344 = .ok (.iadd, 1) := bdL_law_1344.1
theorem dL_law_1345 : decode cL_law 1345 = .ok (.iaload, 1) := bdL_law_1344.2.1
theorem dL_law_1346 : decode cL_law 1346 = .ok (.invokevirtual 165, 3) := bdL_law_1344.2.2.1
theorem dL_law_1349 : decode cL_law 1349 = .ok (.pop, 1) := bdL_law_1344.2.2.2.1
theorem dL_law_1350 : decode cL_law 1350 = .ok (.goto 75, 3) := bdL_law_1344.2.2.2.2.1
theorem dL_law_1353 : decode cL_law 1353 = .ok (.aload_n 1, 1) := bdL_law_1344.2.2.2.2.2.1
theorem dL_law_1354 : decode cL_law 1354 = .ok (.aload_n 0, 1) := bdL_law_1344.2.2.2.2.2.2.1
theorem dL_law_1355 : decode cL_law 1355 = .ok (.iload_n 3, 1) := bdL_law_1344.2.2.2.2.2.2.2.1
theorem dL_law_1356 : decode cL_law 1356 = .ok (.iconst 1, 1) := bdL_law_1344.2.2.2.2.2.2.2.2.1
theorem dL_law_1357 : decode cL_law 1357 = .ok (.iadd, 1) := bdL_law_1344.2.2.2.2.2.2.2.2.2.1
theorem dL_law_1358 : decode cL_law 1358 = .ok (.iaload, 1) := bdL_law_1344.2.2.2.2.2.2.2.2.2.2.1
theorem dL_law_1359 : decode cL_law 1359 = .ok (.invokevirtual 166, 3) := bdL_law_1344.2.2.2.2.2.2.2.2.2.2.2.1
theorem dL_law_1362 : decode cL_law 1362 = .ok (.pop, 1) := bdL_law_1344.2.2.2.2.2.2.2.2.2.2.2.2.1
theorem dL_law_1363 : decode cL_law 1363 = .ok (.aload_n 2, 1) := bdL_law_1344.2.2.2.2.2.2.2.2.2.2.2.2.2.1
theorem dL_law_1364 : decode cL_law 1364 = .ok (.aload_n 0, 1) := bdL_law_1344.2.2.2.2.2.2.2.2.2.2.2.2.2.2.1
theorem dL_law_1365 : decode cL_law 1365 = .ok (.iload_n 3, 1) := bdL_law_1344.2.2.2.2.2.2.2.2.2.2.2.2.2.2.2.1
theorem dL_law_1366 : decode cL_law 1366 = .ok (.iconst 1, 1) := bdL_law_1344.2.2.2.2.2.2.2.2.2.2.2.2.2.2.2.2.1
theorem dL_law_1367 : decode cL_law 1367 = .ok (.iadd, 1) := bdL_law_1344.2.2.2.2.2.2.2.2.2.2.2.2.2.2.2.2.2.1
theorem dL_law_1368 : decode cL_law 1368 = .ok (.iaload, 1) := bdL_law_1344.2.2.2.2.2.2.2.2.2.2.2.2.2.2.2.2.2.2.1
theorem dL_law_1369 : decode cL_law 1369 = .ok (.invokevirtual 169, 3) := bdL_law_1344.2.2.2.2.2.2.2.2.2.2.2.2.2.2.2.2.2.2.2.1
theorem dL_law_1372 : decode cL_law 1372 = .ok (.pop, 1) := bdL_law_1344.2.2.2.2.2.2.2.2.2.2.2.2.2.2.2.2.2.2.2.2.1
theorem dL_law_1373 : decode cL_law 1373 = .ok (.goto 52, 3) := bdL_law_1344.2.2.2.2.2.2.2.2.2.2.2.2.2.2.2.2.2.2.2.2.2.1
theorem dL_law_1376 : decode cL_law 1376 = .ok (.aload_n 1, 1) := bdL_law_1344.2.2.2.2.2.2.2.2.2.2.2.2.2.2.2.2.2.2.2.2.2.2.1
theorem dL_law_1377 : decode cL_law 1377 = .ok (.invokevirtual 170, 3) := bdL_law_1344.2.2.2.2.2.2.2.2.2.2.2.2.2.2.2.2.2.2.2.2.2.2.2.1
theorem dL_law_1380 : decode cL_law 1380 = .ok (.pop, 1) := bdL_law_1344.2.2.2.2.2.2.2.2.2.2.2.2.2.2.2.2.2.2.2.2.2.2.2.2.1
theorem dL_law_1381 : decode cL_law 1381 = .ok (.aload_n 2, 1) := bdL_law_1344.2.2.2.2.2.2.2.2.2.2.2.2.2.2.2.2.2.2.2.2.2.2.2.2.2.1
theorem dL_law_1382 : decode cL_law 1382 = .ok (.invokevirtual 173, 3) := bdL_law_1344.2.2.2.2.2.2.2.2.2.2.2.2.2.2.2.2.2.2.2.2.2.2.2.2.2.2.1
theorem dL_law_1385 : decode cL_law 1385 = .ok (.pop, 1) := bdL_law_1344.2.2.2.2.2.2.2.2.2.2.2.2.2.2.2.2.2.2.2.2.2.2.2.2.2.2.2.1
theorem dL_law_1386 : decode cL_law 1386 = .ok (.goto 39, 3) := bdL_law_1344.2.2.2.2.2.2.2.2.2.2.2.2.2.2.2.2.2.2.2.2.2.2.2.2.2.2.2.2.1
theorem dL_law_1389 : decode cL_law 1389 = .ok (.aload_n 1, 1) := bdL_law_1344.2.2.2.2.2.2.2.2.2.2.2.2.2.2.2.2.2.2.2.2.2.2.2.2.2.2.2.2.2.1
theorem dL_law_1390 : decode cL_law 1390 = .ok (.invokevirtual 174, 3) := bdL_law_1344.2.2.2.2.2.2.2.2.2.2.2.2.2.2.2.2.2.2.2.2.2.2.2.2.2.2.2.2.2.2.1
theorem dL_law_1393 : decode cL_law 1393 = .ok (.pop, 1) := bdL_law_1344.2.2.2.2.2.2.2.2.2.2.2.2.2.2.2.2.2.2.2.2.2.2.2.2.2.2.2.2.2.2.2.1
theorem dL_law_1394 : decode cL_law 1394 = .ok (.aload_n 2, 1) := bdL_law_1344.2.2.2.2.2.2.2.2.2.2.2.2.2.2.2.2.2.2.2.2.2.2.2.2.2.2.2.2.2.2.2.2.1
theorem dL_law_1395 : decode cL_law 1395 = .ok (.invokevirtual 177, 3) := bdL_law_1344.2.2.2.2.2.2.2.2.2.2.2.2.2.2.2.2.2.2.2.2.2.2.2.2.2.2.2.2.2.2.2.2.2.1
theorem dL_law_1398 : decode cL_law 1398 = .ok (.pop, 1) := bdL_law_1344.2.2.2.2.2.2.2.2.2.2.2.2.2.2.2.2.2.2.2.2.2.2.2.2.2.2.2.2.2.2.2.2.2.2.1
theorem dL_law_1399 : decode cL_law 1399 = .ok (.goto 26, 3) := bdL_law_1344.2.2.2.2.2.2.2.2.2.2.2.2.2.2.2.2.2.2.2.2.2.2.2.2.2.2.2.2.2.2.2.2.2.2.2.1
theorem dL_law_1402 : decode cL_law 1402 = .ok (.aload_n 1, 1) := bdL_law_1344.2.2.2.2.2.2.2.2.2.2.2.2.2.2.2.2.2.2.2.2.2.2.2.2.2.2.2.2.2.2.2.2.2.2.2.2.1
theorem dL_law_1403 : decode cL_law 1403 = .ok (.aload_n 0, 1) := bdL_law_1344.2.2.2.2.2.2.2.2.2.2.2.2.2.2.2.2.2.2.2.2.2.2.2.2.2.2.2.2.2.2.2.2.2.2.2.2.2.1
theorem dL_law_1404 : decode cL_law 1404 = .ok (.iload_n 3, 1) := bdL_law_1344.2.2.2.2.2.2.2.2.2.2.2.2.2.2.2.2.2.2.2.2.2.2.2.2.2.2.2.2.2.2.2.2.2.2.2.2.2.2.1
theorem dL_law_1405 : decode cL_law 1405 = .ok (.iconst 1, 1) := bdL_law_1344.2.2.2.2.2.2.2.2.2.2.2.2.2.2.2.2.2.2.2.2.2.2.2.2.2.2.2.2.2.2.2.2.2.2.2.2.2.2.2
theorem bdL_law_1406 : (decode cL_law 1406 = .ok (.iadd, 1)) ∧ (decode cL_law 1407 = .ok (.iaload, 1)) ∧ (decode cL_law 1408 = .ok (.invokevirtual 178, 3)) ∧ (decode cL_law 1411 = .ok (.pop, 1)) ∧ (decode cL_law 1412 = .ok (.aload_n 2, 1)) ∧ (decode cL_law 1413 = .ok (.aload_n 0, 1)) ∧ (decode cL_law 1414 = .ok (.iload_n 3, 1)) ∧ (decode cL_law 1415 = .ok (.iconst 1, 1)) ∧ (decode cL_law 1416 = .ok (.iadd, 1)) ∧ (decode cL_law 1417 = .ok (.iaload, 1)) ∧ (decode cL_law 1418 = .ok (.invokevirtual 181, 3)) ∧ (decode cL_law 1421 = .ok (.pop, 1)) ∧ (decode cL_law 1422 = .ok (.goto 3, 3)) ∧ (decode cL_law 1425 = .ok (.iinc 3 6, 3)) ∧ (decode cL_law 1428 = .ok (.goto (-1410), 3)) ∧ (decode cL_law 1431 = .ok (.iconst 1, 1)) ∧ (decode cL_law 1432 = .ok (.ireturn, 1)) := by decide +kernel
theorem dL_law_1406 : decode cL_law 1406 = .ok (.iadd, 1) := bdL_law_1406.1
theorem dL_law_1407 : decode cL_law 1407 = .ok (.iaload, 1) := bdL_law_1406.2.1
theorem dL_law_1408 : decode cL_law 1408 = .ok (.invokevirtual 178, 3) := bdL_law_1406.2.2.1
theorem dL_law_1411 : decode cL_law 1411 = .ok (.pop, 1) := bdL_law_1406.2.2.2.1
theorem dL_law_1412 : decode cL_law 1412 = .ok (.aload_n 2, 1) := bdL_law_1406.2.2.2.2.1
theorem dL_law_1413 : decode cL_law 1413 = .ok (.aload_n 0, 1) := bdL_law_1406.2.2.2.2.2.1
theorem dL_law_1414 : decode cL_law 1414 = .ok (.iload_n 3, 1) := bdL_law_1406.2.2.2.2.2.2.1
theorem dL_law_1415 : decode cL_law 1415 = .ok (.iconst 1, 1) := bdL_law_1406.2.2.2.2.2.2.2.1
theorem dL_law_1416 : decode cL_law 1416 = .ok (.iadd, 1) := bdL_law_1406.2.2.2.2.2.2.2.2.1
theorem dL_law_1417 : decode cL_law 1417 = .ok (.iaload, 1) := bdL_law_1406.2.2.2.2.2.2.2.2.2.1
theorem dL_law_1418 : decode cL_law 1418 = .ok (.invokevirtual 181, 3) := bdL_law_1406.2.2.2.2.2.2.2.2.2.2.1
theorem dL_law_1421 : decode cL_law 1421 = .ok (.pop, 1) := bdL_law_1406.2.2.2.2.2.2.2.2.2.2.2.1
theorem dL_law_1422 : decode cL_law 1422 = .ok (.goto 3, 3) := bdL_law_1406.2.2.2.2.2.2.2.2.2.2.2.2.1
theorem dL_law_1425 : decode cL_law 1425 = .ok (.iinc 3 6, 3) := bdL_law_1406.2.2.2.2.2.2.2.2.2.2.2.2.2.1
theorem dL_law_1428 : decode cL_law 1428 = .ok (.goto (-1410), 3) := bdL_law_1406.2.2.2.2.2.2.2.2.2.2.2.2.2.2.1
theorem dL_law_1431 : decode cL_law 1431 = .ok (.iconst 1, 1) := bdL_law_1406.2.2.2.2.2.2.2.2.2.2.2.2.2.2.2.1
theorem dL_law_1432 : decode cL_law 1432 = .ok (.ireturn, 1) := bdL_law_1406.2.2.2.2.2.2.2.2.2.2.2.2.2.2.2.2
